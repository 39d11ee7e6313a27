import java.math.BigInteger;
import java.util.ArrayList;
import java.util.Arrays;
import java.util.HashMap;
import java.util.List;
import java.util.Map;

/**
 * The document once more, with no thought of speed: nothing is kept but what was told, and each
 * answer is worked out from there, with fractions of any size, lists and maps.
 */
final class Model {
    private static final int NONE = -1, BAD = -2, NOT = -3, FULL = -4;
    private static final int[] LEAST = {0, 0, 0, 0, 0, 0, 0, 1, 0, 0};
    private static final int[] MOST = {19, 19, 999, 999, 99, 9999, 19, 8, 99, 99};

    /** A group as rules see it. */
    private record Seen(int number, Part mean, int side, int zone) {
    }

    private record Rule(char kind, int k, int n, int zone) {
    }

    private final int[] settings = {0, 19, 58, 999, 1, 9, 2, 2, 10, 10};
    private int groups = 0;
    private final List<int[]> tellings = new ArrayList<>();
    private final List<StringBuilder> texts = List.of(new StringBuilder(), new StringBuilder());
    private final List<int[]> causes = new ArrayList<>();
    private int[] odds = {0, 2, 9, 21, 21, 9, 2, 0};
    private final int[][] sheets = new int[4][];
    private final int[] forms = new int[4];
    private int finding = 0;

    private static boolean in(int v, int least, int most) {
        return v >= least && v <= most;
    }

    private int find(int number) {
        finding = number;
        return -10 - number;
    }

    private static long refused(int answer) {
        return Long.MIN_VALUE + Math.abs(answer);
    }

    // ---- groups

    int group() {
        return groups == 20 ? FULL : groups++;
    }

    private int lastTime() {
        return tellings.isEmpty() ? 0 : tellings.get(tellings.size() - 1)[3];
    }

    int told(int group, int piece, int v, int time) {
        if (!in(group, 0, groups - 1) || !in(piece, 0, 4) || !in(v, -1, 999) || !in(time, lastTime(), 999)) {
            return BAD;
        }
        if (tellings.size() == 100) {
            return FULL;
        }
        tellings.add(new int[] {group, piece, v, time});
        return tellings.size();
    }

    int read(int s, int group, int time) {
        if (!in(s, 0, 3) || !in(group, 0, groups - 1) || !in(time, lastTime(), 999)) {
            return BAD;
        }
        if (sheets[s] == null) {
            return find(1);
        }
        int came = 0;
        for (int v : sheets[s]) {
            if (told(group, came, v, time) < 0) {
                break;
            }
            came++;
        }
        return came;
    }

    int set(int what, int v) {
        if (!in(what, 0, 9) || !in(v, LEAST[what], MOST[what])) {
            return -5;
        }
        int was = settings[what];
        settings[what] = v;
        return was;
    }

    private int known(int group, int piece) {
        int v = NONE;
        for (int[] t : tellings) {
            if (t[0] == group && t[1] == piece && t[3] <= settings[3]) {
                v = t[2];
            }
        }
        return v;
    }

    private List<Integer> values(int group) {
        List<Integer> all = new ArrayList<>();
        for (int piece = 0; piece < 5; piece++) {
            if (known(group, piece) != NONE) {
                all.add(known(group, piece));
            }
        }
        return all;
    }

    private boolean blank(int group) {
        return values(group).isEmpty();
    }

    private Part mean(int group) {
        long together = 0;
        for (int v : values(group)) {
            together += v;
        }
        return Part.of(together, values(group).size());
    }

    private int span(int group) {
        int least = 1000;
        int greatest = -1;
        for (int v : values(group)) {
            least = Math.min(least, v);
            greatest = Math.max(greatest, v);
        }
        return greatest - least;
    }

    int value(int group, int piece) {
        return in(group, 0, groups - 1) && in(piece, 0, 4) ? known(group, piece) : BAD;
    }

    long of(int group, int which, int what) {
        if (!in(group, 0, groups - 1) || !in(which, 0, 1) || !in(what, 0, 1)) {
            return refused(BAD);
        }
        if (blank(group)) {
            return refused(NOT);
        }
        return (which == 0 ? mean(group) : Part.of(span(group), 1)).told(what);
    }

    /** Middle, step, and the bits of those left out; null, where the base has nothing. */
    private Object[] lines() {
        List<Integer> base = new ArrayList<>();
        for (int g = settings[0]; g <= settings[1] && g < groups; g++) {
            if (!blank(g)) {
                base.add(g);
            }
        }
        if (base.isEmpty()) {
            return null;
        }
        int out = 0;
        while (true) {
            Part middle = Part.ZERO;
            Part step = Part.ZERO;
            for (int g : base) {
                middle = middle.plus(mean(g).by(base.size()));
                step = step.plus(Part.of(span(g), base.size()));
            }
            step = step.times(settings[2]).by(300);
            List<Integer> stay = new ArrayList<>();
            for (int g : base) {
                boolean high = mean(g).more(middle.plus(step.times(3)));
                boolean low = middle.minus(step.times(3)).more(mean(g));
                if (!high && !low) {
                    stay.add(g);
                }
            }
            if (stay.size() == base.size() || stay.size() < 2) {
                return new Object[] {middle, step, out};
            }
            for (int g : base) {
                if (!stay.contains(g)) {
                    out += 1 << g;
                }
            }
            base = stay;
        }
    }

    long base(int which, int what) {
        if (!in(which, 0, 1) || !in(what, 0, 1)) {
            return refused(BAD);
        }
        Object[] lines = lines();
        return lines == null ? refused(NOT) : ((Part) lines[which]).told(what);
    }

    int leftOut() {
        Object[] lines = lines();
        return lines == null ? NOT : (Integer) lines[2];
    }

    private Seen see(int g, Object[] lines) {
        Part middle = (Part) lines[0];
        Part step = (Part) lines[1];
        Part mean = mean(g);
        int side = mean.compareTo(middle);
        int zone = 0;
        for (int line = 1; line <= 3; line++) {
            Part far = side > 0 ? mean.minus(middle) : middle.minus(mean);
            if (side != 0 && far.more(step.times(line))) {
                zone = line;
            }
        }
        return new Seen(g, mean, side, zone);
    }

    private static int classOf(Seen seen) {
        return seen.side < 0 ? 3 - seen.zone : 4 + seen.zone;
    }

    int zone(int group, int what) {
        if (!in(group, 0, groups - 1) || !in(what, 0, 2)) {
            return BAD;
        }
        Object[] lines = lines();
        if (blank(group) || lines == null) {
            return NOT;
        }
        Seen seen = see(group, lines);
        return what == 0 ? (seen.side + 3) % 3 : what == 1 ? seen.zone : classOf(seen);
    }

    // ---- rules

    int type(int text, int b) {
        if (!in(text, 0, 1) || !in(b, 0, 255)) {
            return BAD;
        }
        if (texts.get(text).length() == 50) {
            return FULL;
        }
        texts.get(text).append((char) b);
        return texts.get(text).length();
    }

    int wipe(int text) {
        if (!in(text, 0, 1)) {
            return BAD;
        }
        int had = texts.get(text).length();
        texts.get(text).setLength(0);
        return had;
    }

    private static final Map<String, Rule> ALL_RULES = allRules();

    private static Map<String, Rule> allRules() {
        Map<String, Rule> all = new HashMap<>();
        for (int k = 1; k <= 5; k++) {
            for (int n = k; n <= 5; n++) {
                for (int zone = 0; zone <= 3; zone++) {
                    all.put("z" + k + "/" + n + ">" + zone, new Rule('z', k, n, zone));
                }
            }
        }
        for (int k = 2; k <= 9; k++) {
            all.put("r" + k, new Rule('r', k, 0, 0));
            if (k > 2) {
                all.put("a" + k, new Rule('a', k, 0, 0));
            }
        }
        return all;
    }

    /** Lays the rules of a text into the list; answers its fault. */
    private static int parse(String text, List<Rule> rules) {
        int at = 0;
        while (!text.isEmpty()) {
            if (rules.size() == 8) {
                return at;
            }
            String so = "";
            while (!ALL_RULES.containsKey(so)) {
                if (at == text.length()) {
                    return at;
                }
                String next = so + text.charAt(at);
                if (ALL_RULES.keySet().stream().noneMatch(rule -> rule.startsWith(next))) {
                    return at;
                }
                so = next;
                at++;
            }
            rules.add(ALL_RULES.get(so));
            if (at == text.length()) {
                return NONE;
            }
            if (text.charAt(at) != ';') {
                return at;
            }
            at++;
        }
        return NONE;
    }

    int fault(int text) {
        return in(text, 0, 1) ? parse(texts.get(text).toString(), new ArrayList<>()) : BAD;
    }

    private List<Rule> rules(int text) {
        List<Rule> rules = new ArrayList<>();
        return parse(texts.get(text).toString(), rules) == NONE ? rules : null;
    }

    private static int bits(List<Rule> rules, List<Seen> row, int at) {
        int bits = 0;
        for (int r = 0; r < rules.size(); r++) {
            if (holds(rules.get(r), row.subList(0, at + 1))) {
                bits += 1 << r;
            }
        }
        return bits;
    }

    private static boolean holds(Rule rule, List<Seen> upTo) {
        int size = upTo.size();
        if (rule.kind == 'z') {
            int above = 0;
            int below = 0;
            for (Seen seen : upTo.subList(Math.max(0, size - rule.n), size)) {
                above += seen.side == 1 && seen.zone >= rule.zone ? 1 : 0;
                below += seen.side == -1 && seen.zone >= rule.zone ? 1 : 0;
            }
            return above >= rule.k || below >= rule.k;
        }
        if (size < rule.k) {
            return false;
        }
        List<Integer> ways = new ArrayList<>();
        for (int i = size - rule.k + 1; i < size; i++) {
            ways.add(upTo.get(i).mean.compareTo(upTo.get(i - 1).mean));
        }
        if (rule.kind == 'r') {
            return ways.stream().allMatch(w -> w > 0) || ways.stream().allMatch(w -> w < 0);
        }
        for (int i = 0; i < ways.size(); i++) {
            if (ways.get(i) == 0 || i > 0 && ways.get(i) * ways.get(i - 1) > 0) {
                return false;
            }
        }
        return true;
    }

    private List<Seen> row(Object[] lines) {
        List<Seen> row = new ArrayList<>();
        for (int g = 0; g < groups; g++) {
            if (!blank(g)) {
                row.add(see(g, lines));
            }
        }
        return row;
    }

    private static int place(List<Seen> row, int group) {
        for (int at = 0; at < row.size(); at++) {
            if (row.get(at).number == group) {
                return at;
            }
        }
        return NONE;
    }

    int warns(int text, int group) {
        if (!in(text, 0, 1) || !in(group, 0, groups - 1)) {
            return BAD;
        }
        Object[] lines = lines();
        if (rules(text) == null || blank(group) || lines == null) {
            return NOT;
        }
        return bits(rules(text), row(lines), place(row(lines), group));
    }

    private static List<Integer> warning(List<Rule> rules, List<Seen> row) {
        List<Integer> all = new ArrayList<>();
        for (int at = 0; at < row.size(); at++) {
            if (bits(rules, row, at) != 0) {
                all.add(row.get(at).number);
            }
        }
        return all;
    }

    int warned(int text, int what) {
        if (!in(text, 0, 1) || !in(what, 0, 2)) {
            return BAD;
        }
        Object[] lines = lines();
        if (rules(text) == null || lines == null) {
            return NOT;
        }
        List<Seen> row = row(lines);
        List<Integer> all = warning(rules(text), row);
        if (what < 2) {
            return what == 1 ? all.size() : all.isEmpty() ? NONE : all.get(0);
        }
        if (row.size() > 7) {
            return FULL;
        }
        long[] tally = new long[2];
        orders(row, 0, rules(text), all.size(), tally);
        return (int) Part.of(tally[0], tally[1]).times(1000000).floor();
    }

    private static void orders(List<Seen> row, int fixed, List<Rule> rules, int enough, long[] tally) {
        if (fixed == row.size()) {
            tally[0] += warning(rules, row).size() >= enough ? 1 : 0;
            tally[1]++;
            return;
        }
        for (int i = fixed; i < row.size(); i++) {
            List<Seen> other = new ArrayList<>(row);
            other.set(fixed, row.get(i));
            other.set(i, row.get(fixed));
            orders(other, fixed + 1, rules, enough, tally);
        }
    }

    // ---- odds

    int odds(int s) {
        if (!in(s, 0, 3)) {
            return BAD;
        }
        if (sheets[s] == null) {
            return find(1);
        }
        if (sheets[s].length < 8) {
            return find(2);
        }
        long together = 0;
        for (int c = 0; c < 8; c++) {
            if (sheets[s][c] < 0) {
                return NOT;
            }
            together += sheets[s][c];
        }
        if (together != 64) {
            return NOT;
        }
        odds = Arrays.copyOf(sheets[s], 8);
        return 1;
    }

    int oddsOf(int c) {
        return in(c, 0, 7) ? odds[c] : BAD;
    }

    /** The chance that the first warning comes at the m-th more group, behind those that came. */
    private Part firstAt(List<Rule> rules, List<Integer> came, int m, int d, Map<List<Integer>, Part> known) {
        List<Integer> key = new ArrayList<>(came.subList(Math.max(0, came.size() - 4), came.size()));
        key.add(-m);
        key.add(Math.min(came.size(), 4));
        if (known.containsKey(key)) {
            return known.get(key);
        }
        Part chance = Part.ZERO;
        for (int c = 0; c < 8; c++) {
            if (odds[c] > 0) {
                List<Integer> more = new ArrayList<>(came);
                more.add(Math.max(0, Math.min(7, c + d)));
                List<Seen> row = new ArrayList<>();
                for (int each : more) {
                    row.add(new Seen(0, Part.ZERO, each < 4 ? -1 : 1, each < 4 ? 3 - each : each - 4));
                }
                boolean now = bits(rules, row, row.size() - 1) != 0;
                Part then = m == 1 ? now ? Part.of(1, 1) : Part.ZERO
                    : now ? Part.ZERO : firstAt(rules, more, m - 1, d, known);
                chance = chance.plus(then.times(odds[c]).by(64));
            }
        }
        known.put(key, chance);
        return chance;
    }

    private Part upTo(List<Rule> rules, int m, int d) {
        Part chance = Part.ZERO;
        Map<List<Integer>, Part> known = new HashMap<>();
        for (int each = 1; each <= m; each++) {
            chance = chance.plus(firstAt(rules, List.of(), each, d, known));
        }
        return chance;
    }

    private boolean forChances(int text) {
        return rules(text) != null && rules(text).stream().allMatch(rule -> rule.kind == 'z');
    }

    long soon(int text, int m, int d, boolean just, int what) {
        if (!in(text, 0, 1) || !in(m, 1, 9) || !in(d, -7, 7) || !in(what, 0, 1)) {
            return refused(BAD);
        }
        if (!forChances(text)) {
            return refused(NOT);
        }
        Part chance = just ? firstAt(rules(text), List.of(), m, d, new HashMap<>()) : upTo(rules(text), m, d);
        return chance.told(what);
    }

    long cheaper(int m, int d, int what) {
        if (!in(m, 1, 9) || !in(d, -7, 7) || !in(what, 0, 2)) {
            return refused(BAD);
        }
        if (!forChances(0) || !forChances(1)) {
            return refused(NOT);
        }
        Part[] cost = new Part[2];
        for (int text = 0; text < 2; text++) {
            Part inVain = upTo(rules(text), m, 0).times(settings[8]);
            Part late = Part.of(1, 1).minus(upTo(rules(text), m, d)).times(settings[9]);
            cost[text] = inVain.plus(late);
        }
        int which = cost[0].more(cost[1]) ? 1 : 0;
        return what == 2 ? which : cost[which].told(what);
    }

    // ---- running sums

    private static Part max0(Part p) {
        return p.more(Part.ZERO) ? p : Part.ZERO;
    }

    /** Of each group of the row what is run up to it. */
    private List<Part> running(List<Seen> row, Object[] lines, int side) {
        List<Part> all = new ArrayList<>();
        Part sum = Part.ZERO;
        for (Seen seen : row) {
            Part far = seen.mean.minus((Part) lines[0]).times(side);
            sum = max0(sum.plus(far).minus(Part.of(settings[4], 1)));
            all.add(sum);
        }
        return all;
    }

    long sum(int group, int side, int what) {
        if (!in(group, 0, groups - 1) || Math.abs((long) side) != 1 || !in(what, 0, 1)) {
            return refused(BAD);
        }
        Object[] lines = lines();
        if (blank(group) || lines == null) {
            return refused(NOT);
        }
        List<Seen> row = row(lines);
        return running(row, lines, side).get(place(row, group)).told(what);
    }

    int over(int what) {
        if (!in(what, 0, 3)) {
            return BAD;
        }
        Object[] lines = lines();
        if (lines == null) {
            return NOT;
        }
        List<Seen> row = row(lines);
        List<Part> up = running(row, lines, 1);
        List<Part> down = running(row, lines, -1);
        Part much = Part.of(settings[5], 1);
        for (int at = 0; at < row.size(); at++) {
            if (up.get(at).more(much) || down.get(at).more(much)) {
                List<Part> that = up.get(at).more(much) ? up : down;
                int zeroAt = -1;
                for (int i = 0; i < at; i++) {
                    zeroAt = that.get(i).above.signum() == 0 ? i : zeroAt;
                }
                int began = row.get(zeroAt + 1).number;
                return what == 0 ? row.get(at).number : what == 1 ? that == up ? 1 : 2
                    : what == 2 ? began : nearest(began);
            }
        }
        return NONE;
    }

    private int nearest(int number) {
        for (int at = number; at >= 0; at--) {
            for (int i = causes.size() - 1; i >= 0; i--) {
                if (causes.get(i)[1] == at) {
                    return causes.get(i)[0];
                }
            }
        }
        return NONE;
    }

    int cause(int kind, int number) {
        if (!in(kind, 0, 5) || !in(number, 0, 19)) {
            return BAD;
        }
        if (causes.size() == 12) {
            return FULL;
        }
        causes.add(new int[] {kind, number});
        return causes.size();
    }

    int blamed(int text) {
        if (!in(text, 0, 1)) {
            return BAD;
        }
        Object[] lines = lines();
        if (rules(text) == null || lines == null) {
            return NOT;
        }
        int[] many = new int[6];
        for (int g : warning(rules(text), row(lines))) {
            boolean[] has = new boolean[6];
            for (int[] cause : causes) {
                has[cause[0]] |= in(cause[1], g - settings[6], g);
            }
            for (int kind = 0; kind < 6; kind++) {
                many[kind] += has[kind] ? 1 : 0;
            }
        }
        int best = 0;
        for (int kind = 1; kind < 6; kind++) {
            best = many[kind] > many[best] ? kind : best;
        }
        return many[best] == 0 ? NONE : best;
    }

    int smoothed(int group) {
        if (!in(group, 0, groups - 1)) {
            return BAD;
        }
        if (blank(group)) {
            return NOT;
        }
        Part so = null;
        for (int g = 0; g <= group; g++) {
            if (!blank(g)) {
                Part mean = mean(g).times(1000);
                Part next = so == null ? mean : so.plus(mean.minus(so).times(settings[7]).by(8));
                so = Part.of(next.floor(), 1);
            }
        }
        return (int) so.told(0);
    }

    // ---- sheets

    int sheet(int s, int form, int n) {
        if (!in(s, 0, 3) || !in(form, 0, 2) || n > 60) {
            return BAD;
        }
        if (n < 0) {
            return find(5);
        }
        sheets[s] = new int[n];
        forms[s] = form;
        return n;
    }

    int lose(int s) {
        if (!in(s, 0, 3)) {
            return BAD;
        }
        if (sheets[s] == null) {
            return find(1);
        }
        int had = sheets[s].length;
        sheets[s] = null;
        return had;
    }

    private int at(int s, int form, int i) {
        return sheets[s] == null ? 1 : forms[s] != form ? 3 : in(i, 0, sheets[s].length - 1) ? 0 : 2;
    }

    private static int cut(int form, int v) {
        return BigInteger.valueOf(v).intValue() << new int[] {24, 16, 0}[form] >> new int[] {24, 16, 0}[form];
    }

    int lay(int s, int form, int i, int v) {
        if (!in(s, 0, 3) || !in(form, 0, 2)) {
            return BAD;
        }
        if (at(s, form, i) != 0) {
            return find(at(s, form, i));
        }
        sheets[s][i] = cut(form, v);
        return 1;
    }

    int get(int s, int form, int i) {
        if (!in(s, 0, 3) || !in(form, 0, 2)) {
            return Integer.MIN_VALUE;
        }
        if (at(s, form, i) != 0) {
            find(at(s, form, i));
            return Integer.MIN_VALUE;
        }
        return sheets[s][i];
    }

    int copy(int s, int i, int t, int j, int n) {
        if (!in(s, 0, 3) || !in(t, 0, 3)) {
            return BAD;
        }
        if (sheets[s] == null || sheets[t] == null) {
            return find(1);
        }
        if (forms[s] != forms[t]) {
            return find(4);
        }
        if (i < 0 || j < 0 || n < 0 || (long) i + n > sheets[s].length || (long) j + n > sheets[t].length) {
            return find(2);
        }
        int[] were = sheets[s].clone();
        for (int each = 0; each < n; each++) {
            sheets[t][j + each] = were[i + each];
        }
        return 1;
    }

    int write(int s) {
        if (!in(s, 0, 3)) {
            return BAD;
        }
        if (sheets[s] == null) {
            return find(1);
        }
        Object[] lines = lines();
        if (lines == null) {
            return NOT;
        }
        int many = 0;
        while (many < groups && many < sheets[s].length) {
            sheets[s][many] = cut(forms[s], blank(many) ? -1 : classOf(see(many, lines)));
            many++;
        }
        return many;
    }

    int count(int what) {
        int blanks = 0;
        int values = 0;
        for (int g = 0; g < groups; g++) {
            blanks += blank(g) ? 1 : 0;
            values += values(g).size();
        }
        int[] all = {groups, blanks, tellings.size(), values, causes.size(), texts.get(0).length(),
            texts.get(1).length(), settings[3], finding};
        return in(what, 0, 8) ? all[what] : BAD;
    }

    long digest() {
        List<Long> all = new ArrayList<>();
        for (int what = 0; what <= 7; what++) {
            all.add((long) count(what));
        }
        all.add((long) fault(0));
        all.add((long) fault(1));
        all.addAll(List.of(base(0, 0), base(0, 1), base(1, 0), base(1, 1), (long) leftOut()));
        for (int g = 0; g < groups; g++) {
            all.addAll(List.of((long) zone(g, 2), (long) warns(0, g), (long) warns(1, g), (long) smoothed(g)));
        }
        for (int text = 0; text < 2; text++) {
            all.addAll(List.of((long) warned(text, 0), (long) warned(text, 1), soon(text, 4, 1, false, 0),
                soon(text, 4, 1, false, 1), (long) blamed(text)));
        }
        all.addAll(List.of((long) over(0), (long) over(1), (long) over(2), (long) over(3)));
        BigInteger h = BigInteger.valueOf(17);
        for (long each : all) {
            h = h.multiply(BigInteger.valueOf(31)).add(BigInteger.valueOf(each));
        }
        return h.longValue();
    }
}

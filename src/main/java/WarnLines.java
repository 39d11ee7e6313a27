/**
 * Lines that warn: measured pieces in groups, lines around the middle of a base, rules that warn,
 * their chances, running sums, causes, and values that are told late, put right or taken back.
 */
public final class WarnLines {
    public static final int NONE = -1, BAD = -2, NOT = -3, FULL = -4;

    private static final int BAD_SETTING = -5;
    private static final long LEAST_LONG = 0x8000000000000000L;
    private static final int LEAST_INT = 0x80000000;

    private static final int MOST_GROUPS = 20, PIECES = 5, MOST_TELLINGS = 100;
    private static final int MOST_VALUE = 999, MOST_TIME = 999;
    private static final int TEXTS = 2, MOST_BYTES = 50, MOST_RULES = 8, MOST_WINDOW = 5;
    private static final int CLASSES = 8, ON_NO_SIDE = 8, STANDINGS = 9;
    private static final int ODDS_TOGETHER = 64, MOST_ORDERED = 7;
    private static final int KINDS = 6, MOST_CAUSES = 12;
    private static final int SHEETS = 4, FORMS = 3, MOST_ITEMS = 60;

    // Means are held as whole numbers of sixtieths: 1 to 5 values divide 60 without a rest.
    private static final int MEAN_PARTS = 60;

    private static final int FROM = 0, TO = 1, REACH = 2, AS_OF = 3, SLACK = 4, TOO_MUCH = 5;
    private static final int AHEAD = 6, SMOOTHING = 7, FALSE_COST = 8, LATE_COST = 9, SETTINGS = 10;
    private static final int[] FIRST_SETTING = {0, 19, 58, 999, 1, 9, 2, 2, 10, 10};
    private static final int[] LEAST_SETTING = {0, 0, 0, 0, 0, 0, 0, 1, 0, 0};
    private static final int[] MOST_SETTING = {19, 19, 999, 999, 99, 9999, 19, 8, 99, 99};

    private static final int NULL = 1, INDEX = 2, CAST = 3, STORE = 4, SIZE = 5;

    private final int[] settings;
    private final Groups groups;
    private final Lines lines;
    private final Row row;
    private final RuleText[] texts;
    private final Orders orders;
    private final Odds classOdds;
    private final Sums sums;
    private final Causes causes;
    private final Sheet[] sheets;
    private int latestFinding;

    public WarnLines() {
        settings = FIRST_SETTING.clone();
        groups = new Groups();
        lines = new Lines();
        row = new Row();
        texts = new RuleText[TEXTS];
        for (int t = 0; t < TEXTS; t++) {
            texts[t] = new RuleText();
        }
        orders = new Orders(row);
        classOdds = new Odds();
        sums = new Sums();
        causes = new Causes();
        sheets = new Sheet[SHEETS];
        for (int s = 0; s < SHEETS; s++) {
            sheets[s] = new Sheet();
        }
    }

    // ---- groups

    public int group() {
        if (groups.size() >= MOST_GROUPS) {
            return FULL;
        }
        groups.append();
        return groups.size() - 1;
    }

    public int told(int group, int piece, int v, int time) {
        if (!groups.has(group) || outside(piece, 0, PIECES - 1) || !maybeValue(v) || !groups.mayTellAt(time)) {
            return BAD;
        }
        if (!groups.hasRoom()) {
            return FULL;
        }
        groups.tell(group, piece, v, time);
        reckon();
        return groups.tellings();
    }

    public int read(int s, int group, int time) {
        if (outside(s, 0, SHEETS - 1) || !groups.has(group) || !groups.mayTellAt(time)) {
            return BAD;
        }
        Sheet from = sheets[s];
        if (from.isLost()) {
            return finding(NULL);
        }
        int came = 0;
        while (came < PIECES && came < from.size() && groups.hasRoom() && maybeValue(from.item(came))) {
            groups.tell(group, came, from.item(came), time);
            came++;
        }
        reckon();
        return came;
    }

    public int set(int what, int v) {
        if (outside(what, 0, SETTINGS - 1) || outside(v, LEAST_SETTING[what], MOST_SETTING[what])) {
            return BAD_SETTING;
        }
        int was = settings[what];
        settings[what] = v;
        reckon();
        return was;
    }

    public int value(int group, int piece) {
        if (!groups.has(group) || outside(piece, 0, PIECES - 1)) {
            return BAD;
        }
        return groups.known(group, piece);
    }

    public long of(int group, int which, int what) {
        if (!groups.has(group) || outside(which, 0, 1) || outside(what, 0, 1)) {
            return refusal(BAD);
        }
        if (groups.isBlank(group)) {
            return refusal(NOT);
        }
        return which == 0 ? part(groups.mean(group), MEAN_PARTS, what) : part(groups.span(group), 1, what);
    }

    public long base(int which, int what) {
        if (outside(which, 0, 1) || outside(what, 0, 1)) {
            return refusal(BAD);
        }
        if (!lines.haveMiddle()) {
            return refusal(NOT);
        }
        return which == 0
            ? part(lines.meansTogether(), lines.parts(), what)
            : part(lines.stepAbove(), lines.stepBelow(), what);
    }

    public int leftOut() {
        return lines.haveMiddle() ? lines.outBits() : NOT;
    }

    public int zone(int group, int what) {
        if (!groups.has(group) || outside(what, 0, 2)) {
            return BAD;
        }
        if (groups.isBlank(group) || !lines.haveMiddle()) {
            return NOT;
        }
        int mean = groups.mean(group);
        if (what == 0) {
            return sideCode(lines.sideOf(mean));
        }
        return what == 1 ? lines.linesBeyond(mean) : classOf(lines.standingOf(mean));
    }

    // ---- rules

    public int type(int text, int b) {
        if (outside(text, 0, TEXTS - 1) || outside(b, 0, 255)) {
            return BAD;
        }
        if (!texts[text].hasRoom()) {
            return FULL;
        }
        texts[text].append(b);
        return texts[text].length();
    }

    public int wipe(int text) {
        if (outside(text, 0, TEXTS - 1)) {
            return BAD;
        }
        int had = texts[text].length();
        texts[text].empty();
        return had;
    }

    public int fault(int text) {
        return outside(text, 0, TEXTS - 1) ? BAD : texts[text].faultPlace();
    }

    public int warns(int text, int group) {
        if (outside(text, 0, TEXTS - 1) || !groups.has(group)) {
            return BAD;
        }
        if (!canWarn(text) || groups.isBlank(group)) {
            return NOT;
        }
        return texts[text].ruleBits(row, row.placeOf(group));
    }

    public int warned(int text, int what) {
        if (outside(text, 0, TEXTS - 1) || outside(what, 0, 2)) {
            return BAD;
        }
        if (!canWarn(text)) {
            return NOT;
        }
        if (what == 0) {
            return firstWarned(texts[text]);
        }
        if (what == 1) {
            return howManyWarn(texts[text]);
        }
        if (row.length() > MOST_ORDERED) {
            return FULL;
        }
        return orders.millionthsWith(texts[text], howManyWarn(texts[text]));
    }

    // ---- odds

    public int odds(int s) {
        if (outside(s, 0, SHEETS - 1)) {
            return BAD;
        }
        Sheet from = sheets[s];
        if (from.isLost()) {
            return finding(NULL);
        }
        if (from.size() < CLASSES) {
            return finding(INDEX);
        }
        return classOdds.take(from) ? 1 : NOT;
    }

    public int oddsOf(int c) {
        return outside(c, 0, CLASSES - 1) ? BAD : classOdds.share(c);
    }

    public long soon(int text, int m, int d, boolean just, int what) {
        if (outside(text, 0, TEXTS - 1) || badSteps(m, d) || outside(what, 0, 1)) {
            return refusal(BAD);
        }
        if (!texts[text].isForChances()) {
            return refusal(NOT);
        }
        classOdds.follow(texts[text].zoneRules(), m, d);
        return part(just ? classOdds.warnedJust() : classOdds.warnedUpTo(), classOdds.ofAll(), what);
    }

    public long cheaper(int m, int d, int what) {
        if (badSteps(m, d) || outside(what, 0, 2)) {
            return refusal(BAD);
        }
        if (!texts[0].isForChances() || !texts[1].isForChances()) {
            return refusal(NOT);
        }
        long cost0 = costAbove(texts[0], m, d);
        long cost1 = costAbove(texts[1], m, d);
        if (what == 2) {
            return cost1 < cost0 ? 1 : 0;
        }
        return part(Math.min(cost0, cost1), classOdds.ofAll(), what);
    }

    // ---- running sums

    public long sum(int group, int side, int what) {
        if (!groups.has(group) || (side != 1 && side != -1) || outside(what, 0, 1)) {
            return refusal(BAD);
        }
        if (groups.isBlank(group) || !lines.haveMiddle()) {
            return refusal(NOT);
        }
        sums.run(row, lines, settings[SLACK]);
        return part(sums.at(side, row.placeOf(group)), lines.parts(), what);
    }

    public int over(int what) {
        if (outside(what, 0, 3)) {
            return BAD;
        }
        if (!lines.haveMiddle()) {
            return NOT;
        }
        sums.run(row, lines, settings[SLACK]);
        int limit = settings[TOO_MUCH] * lines.parts();
        int place = sums.firstOver(limit);
        if (place == NONE) {
            return NONE;
        }
        int side = sums.sideOver(place, limit);
        int began = row.number(sums.began(place, side));
        switch (what) {
            case 0: return row.number(place);
            case 1: return sideCode(side);
            case 2: return began;
            default: return causes.nearestKind(began);
        }
    }

    public int cause(int kind, int number) {
        if (outside(kind, 0, KINDS - 1) || outside(number, 0, MOST_GROUPS - 1)) {
            return BAD;
        }
        if (!causes.hasRoom()) {
            return FULL;
        }
        causes.append(kind, number);
        return causes.size();
    }

    public int blamed(int text) {
        if (outside(text, 0, TEXTS - 1)) {
            return BAD;
        }
        if (!canWarn(text)) {
            return NOT;
        }
        int most = 0;
        int to = NONE;
        for (int kind = 0; kind < KINDS; kind++) {
            int many = howManyBlame(texts[text], kind);
            if (many > most) {
                most = many;
                to = kind;
            }
        }
        return to;
    }

    public int smoothed(int group) {
        if (!groups.has(group)) {
            return BAD;
        }
        return groups.isBlank(group) ? NOT : row.smoothedAt(row.placeOf(group), settings[SMOOTHING]);
    }

    // ---- sheets

    public int sheet(int s, int form, int n) {
        if (outside(s, 0, SHEETS - 1) || outside(form, 0, FORMS - 1) || n > MOST_ITEMS) {
            return BAD;
        }
        if (n < 0) {
            return finding(SIZE);
        }
        sheets[s].begin(form, n);
        return n;
    }

    public int lose(int s) {
        if (outside(s, 0, SHEETS - 1)) {
            return BAD;
        }
        if (sheets[s].isLost()) {
            return finding(NULL);
        }
        int had = sheets[s].size();
        sheets[s].end();
        return had;
    }

    public int lay(int s, int form, int i, int v) {
        if (outside(s, 0, SHEETS - 1) || outside(form, 0, FORMS - 1)) {
            return BAD;
        }
        int found = sheets[s].findingAt(form, i);
        if (found != 0) {
            return finding(found);
        }
        sheets[s].put(i, v);
        return 1;
    }

    public int get(int s, int form, int i) {
        if (outside(s, 0, SHEETS - 1) || outside(form, 0, FORMS - 1)) {
            return LEAST_INT;
        }
        int found = sheets[s].findingAt(form, i);
        if (found != 0) {
            latestFinding = found;
            return LEAST_INT;
        }
        return sheets[s].item(i);
    }

    public int copy(int s, int i, int t, int j, int n) {
        if (outside(s, 0, SHEETS - 1) || outside(t, 0, SHEETS - 1)) {
            return BAD;
        }
        Sheet from = sheets[s];
        Sheet to = sheets[t];
        if (from.isLost() || to.isLost()) {
            return finding(NULL);
        }
        if (from.form() != to.form()) {
            return finding(STORE);
        }
        if (!from.hasItems(i, n) || !to.hasItems(j, n)) {
            return finding(INDEX);
        }
        to.take(from, i, j, n);
        return 1;
    }

    public int write(int s) {
        if (outside(s, 0, SHEETS - 1)) {
            return BAD;
        }
        Sheet to = sheets[s];
        if (to.isLost()) {
            return finding(NULL);
        }
        if (!lines.haveMiddle()) {
            return NOT;
        }
        int many = Math.min(to.size(), groups.size());
        for (int g = 0; g < many; g++) {
            to.put(g, groups.isBlank(g) ? NONE : classOf(lines.standingOf(groups.mean(g))));
        }
        return many;
    }

    public int count(int what) {
        switch (what) {
            case 0: return groups.size();
            case 1: return groups.size() - row.length();
            case 2: return groups.tellings();
            case 3: return groups.knownValues();
            case 4: return causes.size();
            case 5: return texts[0].length();
            case 6: return texts[1].length();
            case 7: return settings[AS_OF];
            case 8: return latestFinding;
            default: return BAD;
        }
    }

    public long digest() {
        long h = 17;
        for (int what = 0; what < 8; what++) {
            h = 31 * h + count(what);
        }
        for (int text = 0; text < TEXTS; text++) {
            h = 31 * h + fault(text);
        }
        for (int which = 0; which < 2; which++) {
            h = 31 * h + base(which, 0);
            h = 31 * h + base(which, 1);
        }
        h = 31 * h + leftOut();
        for (int g = 0; g < groups.size(); g++) {
            h = 31 * h + zone(g, 2);
            for (int text = 0; text < TEXTS; text++) {
                h = 31 * h + warns(text, g);
            }
            h = 31 * h + smoothed(g);
        }
        for (int text = 0; text < TEXTS; text++) {
            h = 31 * h + warned(text, 0);
            h = 31 * h + warned(text, 1);
            h = 31 * h + soon(text, 4, 1, false, 0);
            h = 31 * h + soon(text, 4, 1, false, 1);
            h = 31 * h + blamed(text);
        }
        for (int what = 0; what < 4; what++) {
            h = 31 * h + over(what);
        }
        return h;
    }

    // Done at each change, so that no call that only asks can meet what is no longer so.
    private void reckon() {
        groups.lookBack(settings[AS_OF]);
        lines.draw(groups, settings[FROM], settings[TO], settings[REACH]);
        row.empty();
        for (int g = 0; g < groups.size(); g++) {
            if (!groups.isBlank(g)) {
                row.append(g, groups.mean(g), lines.standingOf(groups.mean(g)));
            }
        }
    }

    private boolean canWarn(int text) {
        return texts[text].faultPlace() == NONE && lines.haveMiddle();
    }

    private int firstWarned(RuleText text) {
        for (int at = 0; at < row.length(); at++) {
            if (text.isWarnedBy(row, at)) {
                return row.number(at);
            }
        }
        return NONE;
    }

    private int howManyWarn(RuleText text) {
        int many = 0;
        for (int at = 0; at < row.length(); at++) {
            if (text.isWarnedBy(row, at)) {
                many++;
            }
        }
        return many;
    }

    private int howManyBlame(RuleText text, int kind) {
        int many = 0;
        for (int at = 0; at < row.length(); at++) {
            int number = row.number(at);
            if (text.isWarnedBy(row, at) && causes.has(kind, number - settings[AHEAD], number)) {
                many++;
            }
        }
        return many;
    }

    // Out of classOdds.ofAll(), which is the same for both texts: costs compare by what is above.
    private long costAbove(RuleText text, int m, int d) {
        classOdds.follow(text.zoneRules(), m, 0);
        long inVain = classOdds.warnedUpTo();
        classOdds.follow(text.zoneRules(), m, d);
        long missed = classOdds.ofAll() - classOdds.warnedUpTo();
        return settings[FALSE_COST] * inVain + settings[LATE_COST] * missed;
    }

    private int finding(int number) {
        latestFinding = number;
        return -10 - number;
    }

    private static long refusal(int answer) {
        return LEAST_LONG - answer;
    }

    private static boolean outside(int v, int least, int most) {
        return v < least || v > most;
    }

    private static boolean maybeValue(int v) {
        return !outside(v, NONE, MOST_VALUE);
    }

    private static boolean badSteps(int m, int d) {
        return outside(m, 1, 9) || outside(d, -7, 7);
    }

    private static int sideCode(int side) {
        return side < 0 ? 2 : side;
    }

    private static int classOf(int standing) {
        return standing == ON_NO_SIDE ? CLASSES / 2 : standing;
    }

    private static long part(long above, long below, int what) {
        long divisor = commonDivisor(above, below);
        if (divisor <= 0) {
            return 0;
        }
        return what == 0 ? above / divisor : below / divisor;
    }

    // Euclid's steps end far below the bound: each two of them halve the numbers.
    private static long commonDivisor(long a, long b) {
        long greater = a;
        long less = b;
        for (int steps = 0; less != 0 && steps < 200; steps++) {
            long rest = greater % less;
            greater = less;
            less = rest;
        }
        return greater;
    }

    /** The groups, all tellings of their values, and what of it is known as of a time. */
    private static final class Groups {
        private final int[] groupTold = new int[MOST_TELLINGS];
        private final int[] pieceTold = new int[MOST_TELLINGS];
        private final int[] valueTold = new int[MOST_TELLINGS];
        private final int[] timeTold = new int[MOST_TELLINGS];
        private final int[][] known = new int[MOST_GROUPS][PIECES];
        private final int[] mean = new int[MOST_GROUPS];
        private final int[] span = new int[MOST_GROUPS];
        private int tellings;
        private int size;
        private int knownValues;

        int size() {
            return size;
        }

        int tellings() {
            return tellings;
        }

        int knownValues() {
            return knownValues;
        }

        boolean has(int group) {
            return group >= 0 && group < size;
        }

        boolean hasRoom() {
            return tellings < MOST_TELLINGS;
        }

        boolean mayTellAt(int time) {
            int before = tellings > 0 ? timeTold[tellings - 1] : 0;
            return time >= before && time <= MOST_TIME;
        }

        int known(int group, int piece) {
            return has(group) && piece >= 0 && piece < PIECES ? known[group][piece] : NONE;
        }

        boolean isBlank(int group) {
            return !has(group) || mean[group] == NONE;
        }

        /** In sixtieths. */
        int mean(int group) {
            return has(group) ? mean[group] : NONE;
        }

        int span(int group) {
            return has(group) ? span[group] : 0;
        }

        void append() {
            if (size < MOST_GROUPS) {
                forget(size);
                size++;
            }
        }

        void tell(int group, int piece, int v, int time) {
            if (has(group) && hasRoom()) {
                groupTold[tellings] = group;
                pieceTold[tellings] = piece;
                valueTold[tellings] = v;
                timeTold[tellings] = time;
                tellings++;
            }
        }

        /** Times never fall, so that what was told up to one is a beginning of all tellings. */
        void lookBack(int asOf) {
            for (int g = 0; g < size; g++) {
                forget(g);
            }
            for (int i = 0; i < tellings && timeTold[i] <= asOf; i++) {
                learn(groupTold[i], pieceTold[i], valueTold[i]);
            }
            knownValues = 0;
            for (int g = 0; g < size; g++) {
                measure(g);
            }
        }

        private void learn(int group, int piece, int v) {
            if (has(group) && piece >= 0 && piece < PIECES) {
                known[group][piece] = v;
            }
        }

        private void forget(int group) {
            if (group < 0 || group >= MOST_GROUPS) {
                return;
            }
            for (int piece = 0; piece < PIECES; piece++) {
                known[group][piece] = NONE;
            }
            mean[group] = NONE;
            span[group] = 0;
        }

        private void measure(int group) {
            if (!has(group)) {
                return;
            }
            int many = 0;
            int together = 0;
            int least = MOST_VALUE;
            int greatest = 0;
            for (int piece = 0; piece < PIECES; piece++) {
                int v = known[group][piece];
                if (v != NONE) {
                    many++;
                    together += v;
                    least = Math.min(least, v);
                    greatest = Math.max(greatest, v);
                }
            }
            knownValues += many;
            if (many > 0) {
                mean[group] = together * (MEAN_PARTS / many);
                span[group] = greatest - least;
            }
        }
    }

    /**
     * The middle and the step of a base, and which groups are left out of it. All of it is held as
     * whole numbers: the middle is means / (60 many), the step spans * reach / (300 many).
     */
    private static final class Lines {
        private static final int LINES = 3;
        private int many;
        private int means;
        private int spans;
        private int reach;
        private int outBits;

        boolean haveMiddle() {
            return many > 0;
        }

        int outBits() {
            return outBits;
        }

        int meansTogether() {
            return means;
        }

        /** Into so many parts middle and sums are cut. */
        int parts() {
            return MEAN_PARTS * many;
        }

        int stepAbove() {
            return spans * reach;
        }

        int stepBelow() {
            return 300 * many;
        }

        void draw(Groups groups, int from, int to, int hundredths) {
            reach = hundredths;
            outBits = 0;
            // Each round but the last leaves out one group at least.
            for (int round = 0; round <= MOST_GROUPS; round++) {
                gather(groups, from, to);
                int beyond = farOnes(groups, from, to);
                if (beyond == 0 || many - Integer.bitCount(beyond) < 2) {
                    return;
                }
                outBits |= beyond;
            }
        }

        private void gather(Groups groups, int from, int to) {
            many = 0;
            means = 0;
            spans = 0;
            for (int g = from; g <= to && g < MOST_GROUPS; g++) {
                if (isInBase(groups, g)) {
                    many++;
                    means += groups.mean(g);
                    spans += groups.span(g);
                }
            }
        }

        private int farOnes(Groups groups, int from, int to) {
            int bits = 0;
            for (int g = from; g <= to && g < MOST_GROUPS; g++) {
                if (isInBase(groups, g) && linesBeyond(groups.mean(g)) == LINES) {
                    bits |= 1 << g;
                }
            }
            return bits;
        }

        private boolean isInBase(Groups groups, int g) {
            return !groups.isBlank(g) && (outBits >> g & 1) == 0;
        }

        /** How far a mean is above the middle, in parts(). */
        int aboveMiddle(int mean) {
            return mean * many - means;
        }

        int sideOf(int mean) {
            return Integer.compare(aboveMiddle(mean), 0);
        }

        int linesBeyond(int mean) {
            // In parts of 300 many, in which the step has spans * reach.
            int far = Math.abs(aboveMiddle(mean)) * (300 / MEAN_PARTS);
            int beyond = 0;
            while (beyond < LINES && far > (beyond + 1) * stepAbove()) {
                beyond++;
            }
            return beyond;
        }

        /** The class of a mean, told apart from ON_NO_SIDE, which no rule of zones counts. */
        int standingOf(int mean) {
            int side = haveMiddle() ? sideOf(mean) : 0;
            if (side == 0) {
                return ON_NO_SIDE;
            }
            int far = linesBeyond(mean);
            return side > 0 ? CLASSES / 2 + far : CLASSES / 2 - 1 - far;
        }
    }

    /** Groups that stand beside each other, and how the means went up to each of them. */
    private static final class Row {
        private final int[] number = new int[MOST_GROUPS];
        private final int[] mean = new int[MOST_GROUPS];
        private final int[] standing = new int[MOST_GROUPS];
        private final int[] way = new int[MOST_GROUPS];
        private final int[] sameWay = new int[MOST_GROUPS];
        private final int[] otherWay = new int[MOST_GROUPS];
        private int length;

        int length() {
            return length;
        }

        boolean has(int at) {
            return at >= 0 && at < length;
        }

        int number(int at) {
            return has(at) ? number[at] : NONE;
        }

        int mean(int at) {
            return has(at) ? mean[at] : 0;
        }

        int standing(int at) {
            return has(at) ? standing[at] : ON_NO_SIDE;
        }

        /** How many groups up to this one rise, each above the one ahead, or fall. */
        int inOneWay(int at) {
            return has(at) ? sameWay[at] : 0;
        }

        /** How many groups up to this one go up and down in turns. */
        int inTurns(int at) {
            return has(at) ? otherWay[at] : 0;
        }

        int placeOf(int group) {
            for (int at = 0; at < length; at++) {
                if (number[at] == group) {
                    return at;
                }
            }
            return NONE;
        }

        void empty() {
            length = 0;
        }

        void shorten(int to) {
            if (to >= 0 && to < length) {
                length = to;
            }
        }

        void append(int itsNumber, int itsMean, int itsStanding) {
            int at = length;
            if (at < 0 || at >= MOST_GROUPS) {
                return;
            }
            number[at] = itsNumber;
            mean[at] = itsMean;
            standing[at] = itsStanding;
            if (at == 0 || mean[at] == mean[at - 1]) {
                way[at] = 0;
                sameWay[at] = 1;
                otherWay[at] = 1;
            } else {
                way[at] = mean[at] > mean[at - 1] ? 1 : -1;
                boolean same = way[at] == way[at - 1];
                sameWay[at] = same ? sameWay[at - 1] + 1 : 2;
                otherWay[at] = same ? 2 : otherWay[at - 1] + 1;
            }
            length++;
        }

        /** In thousandths, cut at each group. */
        int smoothedAt(int place, int eighths) {
            int smooth = 0;
            for (int at = 0; at <= place && at < length; at++) {
                int weight = at == 0 ? 8 : eighths;
                long parts = (long) smooth * (8 - weight) * MEAN_PARTS + 1000L * mean[at] * weight;
                smooth = (int) Math.floorDiv(parts, 8L * MEAN_PARTS);
            }
            return smooth;
        }
    }

    /**
     * The rules of z of a text, counted all at once: each rule has eight bits of a long, in which a
     * group that the rule counts is 1. The highest of the eight is reached at the rule's k.
     */
    private static final class ZoneRules {
        private static final long HIGHEST_BITS = 0x8080808080808080L;
        private final long[] above = new long[STANDINGS];
        private final long[] below = new long[STANDINGS];
        private final long[] stillLooked = new long[MOST_WINDOW];
        private long start;
        private int widest;

        int widest() {
            return widest;
        }

        /** What a side's count begins with, so that k more reach the highest bit. */
        long start() {
            return start;
        }

        /** What a group that stands so, so many ahead of the one looked at, adds above. */
        long countAbove(int standing, int ahead) {
            if (standing < 0 || standing >= STANDINGS || ahead < 0 || ahead >= MOST_WINDOW) {
                return 0;
            }
            return above[standing] & stillLooked[ahead];
        }

        long countBelow(int standing, int ahead) {
            if (standing < 0 || standing >= STANDINGS || ahead < 0 || ahead >= MOST_WINDOW) {
                return 0;
            }
            return below[standing] & stillLooked[ahead];
        }

        boolean countAlike(int standing, int other) {
            return countAbove(standing, 0) == countAbove(other, 0)
                && countBelow(standing, 0) == countBelow(other, 0);
        }

        static boolean isReached(long countAbove, long countBelow) {
            return ((countAbove | countBelow) & HIGHEST_BITS) != 0;
        }

        static boolean isReachedBy(int rule, long reached) {
            return (reached >>> (8 * rule + 7) & 1) != 0;
        }

        void empty() {
            for (int s = 0; s < STANDINGS; s++) {
                above[s] = 0;
                below[s] = 0;
            }
            for (int ahead = 0; ahead < MOST_WINDOW; ahead++) {
                stillLooked[ahead] = 0;
            }
            start = 0;
            widest = 0;
        }

        void append(int rule, int k, int n, int zone) {
            int shift = 8 * rule;
            for (int z = Math.max(0, zone); z < CLASSES / 2; z++) {
                above[CLASSES / 2 + z] |= 1L << shift;
                below[CLASSES / 2 - 1 - z] |= 1L << shift;
            }
            for (int ahead = 0; ahead < n && ahead < MOST_WINDOW; ahead++) {
                stillLooked[ahead] |= 0xFFL << shift;
            }
            start |= (128L - k) << shift;
            widest = Math.max(widest, n);
        }

        /** Both sides' counts at a place of a row, joined: only the highest bits tell. */
        long reachedAt(Row row, int at) {
            long up = start;
            long down = start;
            for (int ahead = 0; ahead < widest && ahead <= at; ahead++) {
                int standing = row.standing(at - ahead);
                up += countAbove(standing, ahead);
                down += countBelow(standing, ahead);
            }
            return (up | down) & HIGHEST_BITS;
        }
    }

    /** A text and the rules in it, read anew at each change. */
    private static final class RuleText {
        private static final int NO_LENGTH = 99;
        private final int[] bytes = new int[MOST_BYTES];
        private final int[] kind = new int[MOST_RULES];
        private final int[] enough = new int[MOST_RULES];
        private final ZoneRules zoneRules = new ZoneRules();
        private int length;
        private int rules;
        private int faultPlace = NONE;
        private int shortestOneWay = NO_LENGTH;
        private int shortestTurns = NO_LENGTH;

        int length() {
            return length;
        }

        int faultPlace() {
            return faultPlace;
        }

        ZoneRules zoneRules() {
            return zoneRules;
        }

        boolean hasRoom() {
            return length < MOST_BYTES;
        }

        /** Only rules of z can be followed by what the last classes were. */
        boolean isForChances() {
            return faultPlace == NONE && shortestOneWay == NO_LENGTH && shortestTurns == NO_LENGTH;
        }

        void append(int b) {
            if (hasRoom()) {
                bytes[length] = b;
                length++;
            }
            readRules();
        }

        void empty() {
            length = 0;
            readRules();
        }

        boolean isWarnedBy(Row row, int at) {
            return row.inOneWay(at) >= shortestOneWay
                || row.inTurns(at) >= shortestTurns
                || zoneRules.reachedAt(row, at) != 0;
        }

        int ruleBits(Row row, int at) {
            long reached = zoneRules.reachedAt(row, at);
            int bits = 0;
            for (int rule = 0; rule < rules && rule < MOST_RULES; rule++) {
                boolean holds;
                switch (kind[rule]) {
                    case 'r': holds = row.inOneWay(at) >= enough[rule]; break;
                    case 'a': holds = row.inTurns(at) >= enough[rule]; break;
                    default: holds = ZoneRules.isReachedBy(rule, reached); break;
                }
                if (holds) {
                    bits |= 1 << rule;
                }
            }
            return bits;
        }

        private void readRules() {
            forgetRules();
            if (length == 0) {
                return;
            }
            int at = 0;
            for (int rule = 0; rule < MOST_RULES; rule++) {
                at = readRule(rule, at);
                if (faultPlace != NONE) {
                    return;
                }
                rules = rule + 1;
                if (at == length) {
                    return;
                }
                if (byteAt(at) != ';') {
                    faultPlace = at;
                    return;
                }
                at++;
            }
            // Behind the eighth rule's ; a ninth one begins, or the text ends.
            faultPlace = at;
        }

        private void forgetRules() {
            rules = 0;
            faultPlace = NONE;
            shortestOneWay = NO_LENGTH;
            shortestTurns = NO_LENGTH;
            zoneRules.empty();
        }

        /** Answers the place behind the rule. */
        private int readRule(int rule, int at) {
            switch (byteAt(at)) {
                case 'z': return readZoneRule(rule, at);
                case 'r': return readRunRule(rule, at, 2);
                case 'a': return readRunRule(rule, at, 3);
                default: return stopAt(at);
            }
        }

        private int readRunRule(int rule, int at, int least) {
            int k = figureAt(at + 1, least, 9);
            if (k == NONE) {
                return stopAt(at + 1);
            }
            if (byteAt(at) == 'r') {
                shortestOneWay = Math.min(shortestOneWay, k);
            } else {
                shortestTurns = Math.min(shortestTurns, k);
            }
            keep(rule, byteAt(at), k);
            return at + 2;
        }

        private int readZoneRule(int rule, int at) {
            int k = figureAt(at + 1, 1, MOST_WINDOW);
            if (k == NONE) {
                return stopAt(at + 1);
            }
            if (byteAt(at + 2) != '/') {
                return stopAt(at + 2);
            }
            int n = figureAt(at + 3, k, MOST_WINDOW);
            if (n == NONE) {
                return stopAt(at + 3);
            }
            if (byteAt(at + 4) != '>') {
                return stopAt(at + 4);
            }
            int zone = figureAt(at + 5, 0, 3);
            if (zone == NONE) {
                return stopAt(at + 5);
            }
            zoneRules.append(rule, k, n, zone);
            keep(rule, 'z', k);
            return at + 6;
        }

        private void keep(int rule, int itsKind, int k) {
            if (rule >= 0 && rule < MOST_RULES) {
                kind[rule] = itsKind;
                enough[rule] = k;
            }
        }

        private int stopAt(int at) {
            faultPlace = at;
            return at;
        }

        private int figureAt(int at, int least, int most) {
            int figure = byteAt(at) - '0';
            return figure < least || figure > most ? NONE : figure;
        }

        private int byteAt(int at) {
            return at >= 0 && at < length ? bytes[at] : NONE;
        }
    }

    /** All orders in which the groups of a row could stand, and in how many of them enough warn. */
    private static final class Orders {
        private static final int[] ORDERS_OF = {1, 1, 2, 6, 24, 120, 720, 5040};
        private final Row trial = new Row();
        private final Row row;
        private int enough;

        Orders(Row itsRow) {
            row = itsRow;
        }

        int millionthsWith(RuleText text, int many) {
            int all = ordersOf(row.length());
            if (all == 0) {
                return 0;
            }
            enough = many;
            trial.empty();
            return (int) (1000000L * enoughWarn(this, text, 0, 0, 0) / all);
        }

        /** So many groups are laid (those of the bits), and so many of them warn. */
        private static int enoughWarn(Orders o, RuleText text, int laid, int bits, int warned) {
            int left = o.row.length() - laid;
            if (warned >= o.enough) {
                return ordersOf(left);
            }
            if (left <= 0 || laid >= MOST_ORDERED || warned + left < o.enough) {
                return 0;
            }
            int many = 0;
            for (int next = 0; next < o.row.length(); next++) {
                if ((bits >> next & 1) == 0) {
                    o.trial.shorten(laid);
                    o.trial.append(o.row.number(next), o.row.mean(next), o.row.standing(next));
                    int more = text.isWarnedBy(o.trial, laid) ? 1 : 0;
                    many += enoughWarn(o, text, laid + 1, bits | 1 << next, warned + more);
                }
            }
            return many;
        }

        private static int ordersOf(int many) {
            return many >= 0 && many < ORDERS_OF.length ? ORDERS_OF[many] : 0;
        }
    }

    /** The odds of classes, and how soon rules of zones warn by them. */
    private static final class Odds {
        private static final int BITS = 3, HISTORIES = 1 << BITS * (MOST_WINDOW - 1);
        private final int[] share = {0, 2, 9, 21, 21, 9, 2, 0};
        private final int[] weight = new int[CLASSES];
        private long[] now = new long[HISTORIES];
        private long[] then = new long[HISTORIES];
        private long warnedJust;
        private long warnedUpTo;
        private long ofAll = 1;

        int share(int c) {
            return c >= 0 && c < CLASSES ? share[c] : 0;
        }

        long warnedJust() {
            return warnedJust;
        }

        long warnedUpTo() {
            return warnedUpTo;
        }

        long ofAll() {
            return ofAll;
        }

        boolean take(Sheet from) {
            long together = 0;
            for (int c = 0; c < CLASSES; c++) {
                if (from.item(c) < 0) {
                    return false;
                }
                together += from.item(c);
            }
            if (together != ODDS_TOGETHER) {
                return false;
            }
            for (int c = 0; c < CLASSES; c++) {
                share[c] = from.item(c);
            }
            return true;
        }

        /**
         * In how many of 64 by 64 by .. ways the rules warn first at the m-th group just, and up to
         * it. Ways that have not warned are held by what their last classes were: three bits each,
         * the latest one lowest.
         */
        void follow(ZoneRules rules, int m, int d) {
            weigh(rules, d);
            int most = Math.max(0, rules.widest() - 1);
            now[0] = 1;
            warnedUpTo = 0;
            ofAll = 1;
            for (int step = 0; step < m; step++) {
                step(rules, Math.min(step, most), Math.min(step + 1, most));
                warnedUpTo = warnedUpTo * ODDS_TOGETHER + warnedJust;
                ofAll *= ODDS_TOGETHER;
            }
        }

        /** Classes that every rule counts alike are taken together, as the first of them. */
        private void weigh(ZoneRules rules, int d) {
            for (int c = 0; c < CLASSES; c++) {
                weight[c] = 0;
            }
            for (int c = 0; c < CLASSES; c++) {
                int shifted = Math.max(0, Math.min(CLASSES - 1, c + d));
                int first = 0;
                while (first < shifted && !rules.countAlike(first, shifted)) {
                    first++;
                }
                weight[first] += share[c];
            }
        }

        private void step(ZoneRules rules, int held, int heldThen) {
            int histories = Math.min(HISTORIES, 1 << BITS * held);
            int historiesThen = Math.min(HISTORIES, 1 << BITS * heldThen);
            for (int history = 0; history < historiesThen; history++) {
                then[history] = 0;
            }
            warnedJust = 0;
            for (int history = 0; history < histories; history++) {
                if (now[history] != 0) {
                    goOn(rules, history, held, now[history], historiesThen - 1);
                }
            }
            long[] was = now;
            now = then;
            then = was;
        }

        /** So many ways that have come by a history go on, each by every class. */
        private void goOn(ZoneRules rules, int history, int held, long came, int mask) {
            long up = rules.start();
            long down = rules.start();
            for (int ahead = 1; ahead <= held; ahead++) {
                int c = history >> BITS * (ahead - 1) & CLASSES - 1;
                up += rules.countAbove(c, ahead);
                down += rules.countBelow(c, ahead);
            }
            for (int c = 0; c < CLASSES; c++) {
                long ways = came * weight[c];
                if (ways == 0) {
                    continue;
                }
                if (ZoneRules.isReached(up + rules.countAbove(c, 0), down + rules.countBelow(c, 0))) {
                    warnedJust += ways;
                } else {
                    then[(history << BITS | c) & mask & HISTORIES - 1] += ways;
                }
            }
        }
    }

    /** What runs up and down along a row, in the lines' parts. */
    private static final class Sums {
        private final int[] ups = new int[MOST_GROUPS];
        private final int[] downs = new int[MOST_GROUPS];
        private int length;

        void run(Row row, Lines lines, int slack) {
            int less = slack * lines.parts();
            int up = 0;
            int down = 0;
            length = Math.min(row.length(), MOST_GROUPS);
            for (int at = 0; at < length; at++) {
                int far = lines.aboveMiddle(row.mean(at));
                up = Math.max(0, up + far - less);
                down = Math.max(0, down - far - less);
                ups[at] = up;
                downs[at] = down;
            }
        }

        int at(int side, int place) {
            if (place < 0 || place >= length) {
                return 0;
            }
            return side > 0 ? ups[place] : downs[place];
        }

        int firstOver(int limit) {
            for (int place = 0; place < length; place++) {
                if (sideOver(place, limit) != 0) {
                    return place;
                }
            }
            return NONE;
        }

        int sideOver(int place, int limit) {
            if (at(1, place) > limit) {
                return 1;
            }
            return at(-1, place) > limit ? -1 : 0;
        }

        int began(int place, int side) {
            int first = place;
            while (first > 0 && at(side, first - 1) != 0) {
                first--;
            }
            return first;
        }
    }

    /** Causes in the order in which they were told. */
    private static final class Causes {
        private final int[] kind = new int[MOST_CAUSES];
        private final int[] number = new int[MOST_CAUSES];
        private int size;

        int size() {
            return size;
        }

        boolean hasRoom() {
            return size < MOST_CAUSES;
        }

        void append(int itsKind, int itsNumber) {
            if (hasRoom()) {
                kind[size] = itsKind;
                number[size] = itsNumber;
                size++;
            }
        }

        /** The latest told of those that are nearest to a number, at it or ahead of it. */
        int nearestKind(int to) {
            int nearest = NONE;
            int itsKind = NONE;
            for (int i = 0; i < size; i++) {
                if (number[i] <= to && number[i] >= nearest) {
                    nearest = number[i];
                    itsKind = kind[i];
                }
            }
            return itsKind;
        }

        boolean has(int itsKind, int from, int to) {
            for (int i = 0; i < size; i++) {
                if (kind[i] == itsKind && number[i] >= from && number[i] <= to) {
                    return true;
                }
            }
            return false;
        }
    }

    /** A row of items of one form, or a lost one. */
    private static final class Sheet {
        private static final int LOST = -1, BYTES = 0, SHORTS = 1;
        private final int[] items = new int[MOST_ITEMS];
        private int form = LOST;
        private int size;

        boolean isLost() {
            return form == LOST;
        }

        int form() {
            return form;
        }

        int size() {
            return size;
        }

        void begin(int itsForm, int n) {
            form = itsForm;
            size = Math.max(0, Math.min(n, MOST_ITEMS));
            for (int i = 0; i < size; i++) {
                items[i] = 0;
            }
        }

        void end() {
            form = LOST;
            size = 0;
        }

        /** The number of the finding that an item, treated as of a form, makes; 0: none. */
        int findingAt(int asForm, int i) {
            if (isLost()) {
                return NULL;
            }
            if (form != asForm) {
                return CAST;
            }
            return hasItems(i, 1) ? 0 : INDEX;
        }

        boolean hasItems(int from, int n) {
            return from >= 0 && n >= 0 && from <= size - n;
        }

        int item(int i) {
            return hasItems(i, 1) ? items[i] : 0;
        }

        void put(int i, int v) {
            if (hasItems(i, 1)) {
                items[i] = form == BYTES ? (byte) v : form == SHORTS ? (short) v : v;
            }
        }

        void take(Sheet from, int i, int j, int n) {
            if (from.hasItems(i, n) && hasItems(j, n)) {
                System.arraycopy(from.items, i, items, j, n);
            }
        }
    }
}

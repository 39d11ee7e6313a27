import java.util.ArrayList;
import java.util.List;
import java.util.Random;

/** Runs of calls drawn by a fixed seed: the class and the model must answer alike, call by call. */
public final class ModelTest {
    private static final int RUNS = 300, CALLS = 512;
    private final Random random;
    private final WarnLines x = new WarnLines();
    private final Model model = new Model();
    private final List<String> calls = new ArrayList<>();
    private int groups = 0;
    private int time = 0;
    private final int fewGroups;
    private final int center;
    private final int spread;
    private final boolean zonesAlone;
    private boolean alike = true;

    private ModelTest(long seed) {
        random = new Random(seed);
        fewGroups = random.nextInt(3) == 0 ? 20 : 3 + random.nextInt(6);
        center = random.nextInt(1000);
        spread = new int[] {1, 3, 10, 40, 200, 999}[random.nextInt(6)];
        zonesAlone = random.nextBoolean();
    }

    public static void main(String[] args) {
        int runs = args.length > 0 ? Integer.parseInt(args[0]) : RUNS;
        int wrong = 0;
        int asked = 0;
        for (int run = 0; run < runs && wrong < 3; run++) {
            ModelTest test = new ModelTest(run);
            if (run % 8 != 0) {
                test.begin();
            }
            while (test.calls.size() < CALLS && test.alike) {
                test.next();
            }
            asked += test.calls.size();
            if (!test.alike) {
                wrong++;
                System.out.println("run " + run + ":");
                test.calls.forEach(System.out::println);
            }
        }
        System.out.println(asked + " calls held against the model, " + wrong + " runs wrong");
        if (wrong != 0) {
            System.exit(1);
        }
    }

    private void same(String call, long got, long want) {
        calls.add(call + " = " + got + (got == want ? "" : ", by the model " + want));
        alike &= got == want;
    }

    /** Mostly within the bounds, now and then one beyond, seldom anywhere. */
    private int near(int least, int most) {
        int kind = random.nextInt(60);
        if (kind == 0) {
            return least - 1;
        }
        if (kind == 1) {
            return most + 1;
        }
        if (kind == 2) {
            return new int[] {Integer.MIN_VALUE, Integer.MAX_VALUE, -1, 64, random.nextInt()}[random.nextInt(5)];
        }
        return least + random.nextInt(most - least + 1);
    }

    private int aGroup() {
        return near(0, Math.max(0, groups - 1));
    }

    private int aValue() {
        int kind = random.nextInt(20);
        if (kind == 0) {
            return -1;
        }
        if (kind == 1) {
            return near(-1, 999);
        }
        int far = kind < 5 ? 4 * spread : spread;
        return Math.max(0, Math.min(999, center + random.nextInt(2 * far + 1) - far));
    }

    private int aTime() {
        return random.nextInt(25) == 0 ? near(0, 999) : Math.min(999, time + random.nextInt(8));
    }

    /** Most runs begin with some groups and two texts, so that there is something to ask. */
    private void begin() {
        int many = 1 + random.nextInt(fewGroups);
        int pieces = 1 + random.nextInt(Math.min(5, 80 / many));
        for (int g = 0; g < many; g++) {
            same("group()", x.group(), model.group());
            groups++;
            for (int piece = 0; piece < pieces && random.nextInt(12) > 0; piece++) {
                tell(g, piece, aValue(), time);
            }
        }
        typeText(0);
        typeText(1);
        same("digest()", x.digest(), model.digest());
    }

    private void tell(int g, int piece, int v, int t) {
        int got = x.told(g, piece, v, t);
        same("told(" + g + ", " + piece + ", " + v + ", " + t + ")", got, model.told(g, piece, v, t));
        time = got > 0 ? t : time;
    }

    private String aRule() {
        int kind = zonesAlone && random.nextInt(40) != 0 ? 0 : random.nextInt(3);
        if (kind == 0) {
            int n = 1 + random.nextInt(5);
            return "z" + (1 + random.nextInt(n)) + "/" + n + ">" + random.nextInt(4);
        }
        return kind == 1 ? "r" + (2 + random.nextInt(4)) : "a" + (3 + random.nextInt(4));
    }

    private String aText() {
        StringBuilder text = new StringBuilder();
        int rules = random.nextInt(6) == 0 ? 9 : random.nextInt(5);
        for (int r = 0; r < rules; r++) {
            text.append(r == 0 ? "" : ";").append(aRule());
        }
        if (random.nextInt(24) == 0) {
            text.append(";");
        }
        if (text.length() > 0 && random.nextInt(24) == 0) {
            text.setCharAt(random.nextInt(text.length()), "zra;/>0123456789 \u00ff".charAt(random.nextInt(18)));
        }
        if (text.length() > 0 && random.nextInt(24) == 0) {
            text.setLength(random.nextInt(text.length()));
        }
        return text.toString();
    }

    private void next() {
        int kind = random.nextInt(100);
        if (kind < 18) {
            change(random.nextInt(36));
        } else if (kind < 58) {
            askGroups(random.nextInt(14));
        } else if (kind < 80) {
            askChances(random.nextInt(12));
        } else if (kind < 97) {
            sheets(random.nextInt(20));
        } else {
            same("digest()", x.digest(), model.digest());
        }
    }

    private void change(int kind) {
        if (kind < 3) {
            if (groups < fewGroups || random.nextInt(30) == 0) {
                int got = x.group();
                same("group()", got, model.group());
                groups = Math.max(groups, got + 1);
            }
        } else if (kind < 20) {
            tell(aGroup(), near(0, random.nextInt(3) == 0 ? 0 : 4), aValue(), aTime());
        } else if (kind < 23) {
            int s = near(0, 3);
            int g = aGroup();
            int t = aTime();
            int got = x.read(s, g, t);
            same("read(" + s + ", " + g + ", " + t + ")", got, model.read(s, g, t));
            time = got > 0 ? t : time;
        } else if (kind < 30) {
            setOne();
        } else if (kind < 34) {
            int k = near(0, 5);
            int number = near(0, random.nextBoolean() ? 19 : Math.max(0, groups - 1));
            same("cause(" + k + ", " + number + ")", x.cause(k, number), model.cause(k, number));
        } else {
            typeText(near(0, 1));
        }
    }

    private void setOne() {
        int what = near(0, 9);
        int[] most = {random.nextInt(3) == 0 ? 6 : 0, 19, 400, time, 99, 200, 19, 8, 99, 99};
        int v = random.nextInt(8) == 0 || what < 0 || what > 9 ? near(0, 999) : near(0, most[what]);
        v = what == 3 && random.nextInt(4) > 0 ? 999 : v;
        v = what == 4 ? Math.min(v, random.nextInt(spread + 1)) : v;
        v = what == 5 ? Math.min(v, random.nextInt(3 * spread + 1)) : v;
        same("set(" + what + ", " + v + ")", x.set(what, v), model.set(what, v));
    }

    private void typeText(int text) {
        if (random.nextInt(12) > 0) {
            same("wipe(" + text + ")", x.wipe(text), model.wipe(text));
        }
        for (char b : aText().toCharArray()) {
            int so = random.nextInt(400) == 0 ? near(0, 255) : b;
            same("type(" + text + ", " + so + ")", x.type(text, so), model.type(text, so));
        }
        same("fault(" + text + ")", x.fault(text), model.fault(text));
    }

    private void askGroups(int kind) {
        int g = aGroup();
        int a = near(0, 1);
        int b = near(0, 1);
        int c = near(0, 2);
        switch (kind) {
            case 0 -> same("value(" + g + ", " + c + ")", x.value(g, c), model.value(g, c));
            case 1 -> same("of(" + g + ", " + a + ", " + b + ")", x.of(g, a, b), model.of(g, a, b));
            case 2 -> same("base(" + a + ", " + b + ")", x.base(a, b), model.base(a, b));
            case 3 -> same("leftOut()", x.leftOut(), model.leftOut());
            case 4 -> same("zone(" + g + ", " + c + ")", x.zone(g, c), model.zone(g, c));
            case 5, 6 -> same("warns(" + a + ", " + g + ")", x.warns(a, g), model.warns(a, g));
            case 7 -> same("warned(" + a + ", " + b + ")", x.warned(a, b), model.warned(a, b));
            case 8 -> {
                int side = 2 * a - 1;
                same("sum(" + g + ", " + side + ", " + b + ")", x.sum(g, side, b), model.sum(g, side, b));
            }
            case 9, 12, 13 -> {
                int what = near(0, 3);
                same("over(" + what + ")", x.over(what), model.over(what));
            }
            case 10 -> same("blamed(" + a + ")", x.blamed(a), model.blamed(a));
            default -> same("smoothed(" + g + ")", x.smoothed(g), model.smoothed(g));
        }
    }

    private void askChances(int kind) {
        int text = near(0, 1);
        int m = near(1, random.nextInt(20) == 0 ? 9 : 4);
        int d = random.nextInt(3) == 0 ? near(-7, 7) : near(-2, 2);
        boolean just = random.nextBoolean();
        if (kind < 3) {
            int what = near(0, 1);
            same("soon(" + text + ", " + m + ", " + d + ", " + just + ", " + what + ")",
                x.soon(text, m, d, just, what), model.soon(text, m, d, just, what));
        } else if (kind < 5) {
            int what = near(0, 2);
            same("cheaper(" + m + ", " + d + ", " + what + ")", x.cheaper(m, d, what), model.cheaper(m, d, what));
        } else if (kind < 8) {
            int what = random.nextInt(4) == 0 ? 2 : near(0, 2);
            same("warned(" + text + ", " + what + ")", x.warned(text, what), model.warned(text, what));
        } else if (kind < 9) {
            int c = near(0, 7);
            same("oddsOf(" + c + ")", x.oddsOf(c), model.oddsOf(c));
        } else if (kind < 10) {
            layOdds();
        } else {
            int what = near(0, 8);
            same("count(" + what + ")", x.count(what), model.count(what));
        }
    }

    private void layOdds() {
        int s = near(0, 3);
        int form = near(0, 2);
        int n = random.nextInt(5) == 0 ? near(0, 10) : 8;
        same("sheet(" + s + ", " + form + ", " + n + ")", x.sheet(s, form, n), model.sheet(s, form, n));
        int left = 64;
        for (int i = 0; i < n && i < 9; i++) {
            int v = i == n - 1 && random.nextInt(6) > 0 ? left : random.nextInt(left / 2 + 1);
            v = random.nextInt(60) == 0 ? near(-1, 65) : v;
            same("lay(" + s + ", " + form + ", " + i + ", " + v + ")", x.lay(s, form, i, v), model.lay(s, form, i, v));
            left = Math.max(0, left - v);
        }
        same("odds(" + s + ")", x.odds(s), model.odds(s));
    }

    private void sheets(int kind) {
        int s = near(0, 3);
        int t = near(0, 3);
        int form = near(0, 2);
        int n = random.nextInt(8) == 0 ? near(-1, 60) : near(0, 6);
        int i = near(0, 6);
        int j = near(0, 6);
        if (kind < 4) {
            same("sheet(" + s + ", " + form + ", " + n + ")", x.sheet(s, form, n), model.sheet(s, form, n));
        } else if (kind < 5) {
            same("lose(" + s + ")", x.lose(s), model.lose(s));
        } else if (kind < 10) {
            int v = random.nextInt(3) == 0 ? near(-70000, 70000) : aValue();
            same("lay(" + s + ", " + form + ", " + i + ", " + v + ")", x.lay(s, form, i, v), model.lay(s, form, i, v));
        } else if (kind < 15) {
            same("get(" + s + ", " + form + ", " + i + ")", x.get(s, form, i), model.get(s, form, i));
        } else if (kind < 18) {
            String call = "copy(" + s + ", " + i + ", " + t + ", " + j + ", " + n + ")";
            same(call, x.copy(s, i, t, j, n), model.copy(s, i, t, j, n));
        } else {
            same("write(" + s + ")", x.write(s), model.write(s));
        }
        same("count(8)", x.count(8), model.count(8));
    }
}

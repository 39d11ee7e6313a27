import java.math.BigInteger;

/** Chances and faults that can be counted, one way after the other or by what is known of such counts. */
public final class CountedTest {
    private static final int NONE = WarnLines.NONE;
    private static final int[] ODDS = {3, 5, 7, 11, 13, 9, 10, 6};

    public static void main(String[] args) {
        soonWayByWay();
        soonOfFarOnesOnBothSides();
        costsWayByWay();
        cheaperByTheLeastPart();
        chanceOfGoingUpAndDown();
        chanceOfRisingOrFalling();
        chanceOfFarOnesBesideEachOther();
        chanceThatAllWarn();
        chanceWithLikeMeans();
        faultAtEachPlace();
        Due.close();
    }

    /** Of some classes, one behind the other: whether one of the rules of z is met by the last one. */
    private static boolean warns(int[] classes, int at, int[][] rules) {
        for (int[] rule : rules) {
            int above = 0;
            int below = 0;
            for (int i = Math.max(0, at - rule[1] + 1); i <= at; i++) {
                above += classes[i] >= 4 + rule[2] ? 1 : 0;
                below += classes[i] <= 3 - rule[2] ? 1 : 0;
            }
            if (above >= rule[0] || below >= rule[0]) {
                return true;
            }
        }
        return false;
    }

    /** Adds to the tally of each m in how many ways the first warning comes at it. */
    private static void count(int[] odds, int d, int[] classes, int at, long ways, int[][] rules, long[] tally) {
        for (int c = 0; c < 8; c++) {
            long more = ways * odds[c];
            if (more > 0) {
                classes[at] = Math.max(0, Math.min(7, c + d));
                if (warns(classes, at, rules)) {
                    tally[at + 1] += more;
                } else if (at + 1 < classes.length) {
                    count(odds, d, classes, at + 1, more, rules, tally);
                }
            }
        }
    }

    private static long[] tally(int[] odds, int d, int most, int[][] rules) {
        long[] tally = new long[most + 1];
        count(odds, d, new int[most], 0, 1, rules, tally);
        return tally;
    }

    private static String textOf(int[][] rules) {
        StringBuilder text = new StringBuilder();
        for (int[] rule : rules) {
            text.append(text.length() > 0 ? ";" : "");
            text.append('z').append(rule[0]).append('/').append(rule[1]).append('>').append(rule[2]);
        }
        return text.toString();
    }

    private static WarnLines withOdds(int... odds) {
        WarnLines x = new WarnLines();
        Whole.sheet(x, 0, 0, odds);
        Due.due("odds", x.odds(0), 1);
        return x;
    }

    private static void soonIs(WarnLines x, String why, int m, int d, boolean just, long ways) {
        Part due = Part.of(ways, 1L << 6 * m);
        Due.due(why + ", above", x.soon(0, m, d, just, 0), due.told(0));
        Due.due(why + ", below", x.soon(0, m, d, just, 1), due.told(1));
    }

    private static void soonsAre(int[] odds, int d, int most, int[][] rules) {
        WarnLines x = withOdds(odds);
        String text = textOf(rules);
        Due.write(x, 0, text);
        long[] tally = tally(odds, d, most, rules);
        long upTo = 0;
        for (int m = 1; m <= most; m++) {
            upTo = 64 * upTo + tally[m];
            soonIs(x, text + " just at " + m + ", shift " + d, m, d, true, tally[m]);
            soonIs(x, text + " up to " + m + ", shift " + d, m, d, false, upTo);
        }
    }

    private static final int[][][] TEXTS = {
        {{1, 1, 3}}, {{2, 3, 1}, {4, 5, 0}}, {{3, 5, 1}, {2, 2, 2}}, {{5, 5, 0}}, {{4, 4, 1}, {2, 4, 3}},
        {{2, 5, 2}, {3, 4, 1}, {4, 4, 0}, {1, 1, 3}}, {{3, 3, 0}, {4, 5, 1}}, {{2, 2, 3}, {3, 5, 2}, {4, 5, 1}},
        {{5, 5, 1}, {4, 5, 2}, {3, 5, 3}, {5, 5, 0}, {3, 4, 2}, {2, 3, 3}, {4, 4, 2}}};

    private static void soonWayByWay() {
        for (int[][] rules : TEXTS) {
            soonsAre(ODDS, 0, 6, rules);
            for (int d = -7; d <= 7; d++) {
                soonsAre(ODDS, d, 4, rules);
            }
        }
    }

    /** Far ones above and below, and one that is near: three kinds for nine groups. */
    private static void soonOfFarOnesOnBothSides() {
        for (int n = 1; n <= 5; n++) {
            for (int k = 1; k <= n; k++) {
                soonsAre(new int[] {9, 0, 0, 40, 0, 0, 0, 15}, 0, 9, new int[][] {{k, n, 2}});
            }
        }
        soonsAre(new int[] {0, 17, 0, 0, 21, 0, 26, 0}, 0, 9, new int[][] {{3, 5, 2}, {4, 5, 1}, {2, 2, 3}});
        soonsAre(new int[] {0, 17, 0, 0, 21, 0, 26, 0}, 1, 9, new int[][] {{3, 5, 2}, {4, 5, 1}, {2, 2, 3}});
        soonsAre(new int[] {0, 17, 0, 0, 21, 0, 26, 0}, -1, 9, new int[][] {{3, 5, 2}, {4, 5, 1}, {2, 2, 3}});
    }

    private static Part cost(int falsely, int late, int m, int d, int[][] rules) {
        Part[] chance = new Part[2];
        for (int i = 0; i < 2; i++) {
            long[] tally = tally(ODDS, i * d, m, rules);
            long upTo = 0;
            for (int each = 1; each <= m; each++) {
                upTo = 64 * upTo + tally[each];
            }
            chance[i] = Part.of(upTo, 1L << 6 * m);
        }
        Part missed = new Part(BigInteger.ONE, BigInteger.ONE).minus(chance[1]);
        return chance[0].times(falsely).plus(missed.times(late));
    }

    private static void costsWayByWay() {
        int[][] costs = {{10, 10}, {1, 99}, {99, 1}, {7, 13}};
        for (int first = 0; first < TEXTS.length; first++) {
            int second = (first * 5 + 3) % TEXTS.length;
            WarnLines x = withOdds(ODDS);
            Due.write(x, 0, textOf(TEXTS[first]));
            Due.write(x, 1, textOf(TEXTS[second]));
            int m = 3 + first % 2;
            int d = first % 2 == 0 ? 2 : -1;
            for (int[] each : costs) {
                x.set(8, each[0]);
                x.set(9, each[1]);
                Part a = cost(each[0], each[1], m, d, TEXTS[first]);
                Part b = cost(each[0], each[1], m, d, TEXTS[second]);
                String why = textOf(TEXTS[first]) + " and " + textOf(TEXTS[second]);
                Due.due(why + ": which", x.cheaper(m, d, 2), b.compareTo(a) < 0 ? 1 : 0);
                Due.due(why + ": above", x.cheaper(m, d, 0), (b.compareTo(a) < 0 ? b : a).told(0));
                Due.due(why + ": below", x.cheaper(m, d, 1), (b.compareTo(a) < 0 ? b : a).told(1));
            }
        }
    }

    private static void cheaperByTheLeastPart() {
        WarnLines x = withOdds(0, 0, 0, 31, 31, 0, 1, 1);
        x.set(8, 1);
        x.set(9, 0);
        Due.write(x, 0, "z1/1>2");
        Due.write(x, 1, "z1/1>3");
        Due.due("one of 64 is cheaper than two", x.cheaper(1, 0, 2), 1);
        Due.due("above", x.cheaper(1, 0, 0), 1);
        Due.due("below", x.cheaper(1, 0, 1), 64);
        Due.write(x, 0, "z1/1>3");
        Due.write(x, 1, "z1/1>2");
        Due.due("the other way round", x.cheaper(1, 0, 2), 0);
        Due.due("above", x.cheaper(1, 0, 0), 1);
    }

    private static int millionths(long some, long all) {
        return (int) (1000000 * some / all);
    }

    private static void chanceIs(WarnLines x, String rules, long some, long all) {
        Due.write(x, 0, rules);
        Due.due("chance of " + rules, x.warned(0, 2), millionths(some, all));
    }

    /** Of n unlike ones as many orders go up and down all along as twice the zigzag number of n. */
    private static void chanceOfGoingUpAndDown() {
        int[] zigzag = {1, 1, 1, 2, 5, 16, 61, 272};
        int[] upAndDown = {40, 10, 60, 20, 50, 30, 70};
        long all = 2;
        for (int n = 3; n <= 7; n++) {
            all *= n;
            WarnLines x = Due.row(java.util.Arrays.copyOf(upAndDown, n));
            for (int k = 3; k <= n; k++) {
                Due.write(x, 0, "a" + k);
                Due.due("as many as can be, a" + k + " of " + n, x.warned(0, 1), n - k + 1);
                chanceIs(x, "a" + k, 2L * zigzag[n], all);
            }
            // A row that rises: none is in turns, and as many or more are in all orders.
            int[] rising = java.util.Arrays.copyOf(upAndDown, n);
            java.util.Arrays.sort(rising);
            chanceIs(Due.row(rising), "a3", 1, 1);
        }
    }

    private static void chanceOfRisingOrFalling() {
        int[] zigzag = {1, 1, 1, 2, 5, 16, 61, 272};
        long all = 2;
        for (int n = 3; n <= 7; n++) {
            all *= n;
            int[] rising = new int[n];
            for (int i = 0; i < n; i++) {
                rising[i] = 10 * i;
            }
            for (int k = 3; k <= n; k++) {
                // As many as can be warn in a row that rises or falls all along, and in no other.
                chanceIs(Due.row(rising), "r" + k, 2, all);
            }
            // One at least of three that rise or fall: all orders but those that go up and down all along.
            WarnLines x = Due.row(oneRun(n));
            Due.write(x, 0, "r3");
            Due.due("one warns, of " + n, x.warned(0, 1), 1);
            chanceIs(x, "r3", all - 2L * zigzag[n], all);
        }
    }

    /** Three that rise, and up and down behind them. */
    private static int[] oneRun(int n) {
        return java.util.Arrays.copyOf(new int[] {20, 30, 60, 10, 70, 0, 80}, n);
    }

    private static long choose(int n, int k) {
        long many = 1;
        for (int i = 1; i <= k; i++) {
            many = many * (n - k + i) / i;
        }
        return k > n ? 0 : many;
    }

    /** Some are far from the others, of which one is the middle. */
    private static void chanceOfFarOnesBesideEachOther() {
        for (int far = 2; far <= 6; far++) {
            WarnLines x = new WarnLines();
            for (int g = 0; g < 7; g++) {
                Due.group(x, g < far ? 200 + g : 100);
            }
            x.set(0, 6);
            // As many as can be warn, and that they do where all far ones stand together.
            Due.write(x, 0, "z2/2>3");
            Due.due("far ones", x.warned(0, 1), far - 1);
            chanceIs(x, "z2/2>3", 8 - far, choose(7, far));
        }
        // Two far ones of seven stand beside each other in 6 of 21.
        WarnLines two = Due.row(100, 100, 100, 100, 100, 200, 201);
        two.set(1, 0);
        Due.write(two, 0, "z2/2>3");
        Due.due("one warns", two.warned(0, 1), 1);
        chanceIs(two, "z2/2>3", 6, 21);
        // With one between them they stand in 5 more.
        Due.write(two, 0, "z2/3>3");
        Due.due("one warns by two of three", two.warned(0, 1), 1);
        chanceIs(two, "z2/3>3", 6 + 5, 21);
        // A blank one is in no order: two of six.
        two.told(2, 0, -1, 0);
        Due.write(two, 0, "z2/2>3");
        chanceIs(two, "z2/2>3", 5, 15);
    }

    /** All three warn by a far one at it or ahead of it: that they do not where the near one stands first. */
    private static void chanceThatAllWarn() {
        WarnLines x = Due.row(200, 100, 201);
        x.set(0, 1);
        x.set(1, 1);
        Due.write(x, 0, "z1/2>3");
        Due.due("all warn", x.warned(0, 1), 3);
        chanceIs(x, "z1/2>3", 4, 6);
        WarnLines seven = Due.row(200, 100, 201, 100, 202, 100, 203);
        seven.set(0, 1);
        seven.set(1, 1);
        Due.write(seven, 0, "z1/2>3");
        Due.due("all seven warn", seven.warned(0, 1), 7);
        // Three near ones behind one of four far ones each: 4 of 35.
        chanceIs(seven, "z1/2>3", 4, 35);
    }

    private static void chanceWithLikeMeans() {
        // Three of one mean and three of another: up and down all along in two of twenty.
        WarnLines x = Due.row(5, 9, 5, 9, 5, 9);
        for (int k = 3; k <= 6; k++) {
            chanceIs(x, "a" + k, 2, 20);
        }
        // One unlike the other six goes up and down, unless it is at an end.
        WarnLines one = Due.row(5, 5, 5, 9, 5, 5, 5);
        Due.write(one, 0, "a3");
        Due.due("up and down once", one.warned(0, 1), 1);
        chanceIs(one, "a3", 5, 7);
        Due.write(one, 0, "r2");
        Due.due("up, and down", one.warned(0, 1), 2);
        chanceIs(one, "r2", 5, 7);
        WarnLines end = Due.row(5, 5, 5, 5, 5, 5, 9);
        chanceIs(end, "r2", 7, 7);
        chanceIs(end, "r2;a3", 7, 7);
    }

    /** A byte that fits nowhere is the fault, wherever it stands; a text that is cut there is not ended. */
    private static void faultAtEachPlace() {
        String[] wells = {"z1/2>3;r4;a5;z3/5>0", "a9;z2/2>1;z5/5>2;r2;z4/5>0", "z1/1>0;z2/3>1;z3/4>2;z4/5>3;r9;r8;a7;a6"};
        for (String well : wells) {
            for (int place = 0; place <= well.length(); place++) {
                String ahead = well.substring(0, place);
                boolean ended = place == 0 || Character.isDigit(well.charAt(place - 1))
                    && (place == well.length() || well.charAt(place) == ';');
                faultIs(ahead, ended ? NONE : place);
                if (place < well.length()) {
                    faultIs(ahead + "#" + well.substring(place + 1), place);
                    faultIs(ahead + "#" + well.substring(place), place);
                }
            }
        }
    }

    private static void faultIs(String text, int place) {
        WarnLines x = new WarnLines();
        Due.write(x, 1, text);
        Due.due("fault of '" + text + "'", x.fault(1), place);
    }
}

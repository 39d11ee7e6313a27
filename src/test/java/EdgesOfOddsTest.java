/** The boundaries that promises 16 to 19 and the terms of chances name: odds, oddsOf, soon, cheaper. */
public final class EdgesOfOddsTest {
    private static final int BAD = WarnLines.BAD, NOT = WarnLines.NOT;
    private static final int MOST = Integer.MAX_VALUE;

    public static void main(String[] args) {
        oddsBounds();
        oddsOfALostSheet();
        oddsOfFewerItems();
        oddsAre64Together();
        oddsBelow0();
        oddsByWrapping();
        oddsOfAllForms();
        oddsOfBounds();
        soonBounds();
        soonRefusals();
        soonOfNoRules();
        soonNeedsNoGroups();
        soonShiftedToTheEnds();
        soonAtTheFirstOnes();
        soonJustAndUpTo();
        soonOfTheLastNAndNoMore();
        soonOfTheGreatestFraction();
        cheaperBounds();
        cheaperRefusals();
        cheaperOfLikeOnes();
        cheaperAtTheEndsOfCosts();
        Due.close();
    }

    private static void oddsBounds() {
        for (int s : new int[] {-1, 4, Integer.MIN_VALUE, MOST}) {
            Whole.refused("odds of sheet " + s, x -> x.odds(s), BAD);
        }
        for (int s = 0; s < 4; s++) {
            WarnLines x = new WarnLines();
            Whole.sheet(x, s, 0, 8, 8, 8, 8, 8, 8, 8, 8);
            Due.due("odds of sheet " + s, x.odds(s), 1);
            Due.due("they are told", x.oddsOf(0), 8);
        }
    }

    private static void oddsOfALostSheet() {
        Whole.found("odds of a lost sheet", x -> x.odds(3), 1);
    }

    private static WarnLines withItems(int... items) {
        WarnLines x = Whole.make();
        Whole.sheet(x, 3, 2, items);
        x.sheet(3, 0, -1);
        return x;
    }

    private static void oddsOfFewerItems() {
        for (int n = 0; n < 8; n++) {
            int[] items = new int[n];
            Whole.found(n + " items", () -> withItems(items), x -> x.odds(3), -12, 2);
        }
        Whole.found("seven that are 64 together", () -> withItems(64, 0, 0, 0, 0, 0, 0), x -> x.odds(3), -12, 2);
        Whole.found("INDEX goes ahead of one below 0", () -> withItems(65, -1, 0, 0, 0, 0, 0), x -> x.odds(3), -12, 2);
        WarnLines x = withItems(64, 0, 0, 0, 0, 0, 0, 0);
        Due.due("eight items", x.odds(3), 1);
        WarnLines nine = withItems(0, 0, 0, 0, 0, 0, 0, 64, 1);
        Due.due("the ninth is not looked at", nine.odds(3), 1);
        Due.due("the eighth is", nine.oddsOf(7), 64);
        WarnLines below = withItems(0, 0, 0, 64, 0, 0, 0, 0, -1);
        Due.due("the ninth may be below 0", below.odds(3), 1);
        Whole.refused("the ninth does not help", () -> withItems(0, 0, 0, 0, 0, 0, 0, 63, 1), x9 -> x9.odds(3), NOT);
    }

    private static void oddsAre64Together() {
        Whole.refused("none", () -> withItems(0, 0, 0, 0, 0, 0, 0, 0), x -> x.odds(3), NOT);
        Whole.refused("63", () -> withItems(8, 8, 8, 8, 8, 8, 8, 7), x -> x.odds(3), NOT);
        Whole.refused("65", () -> withItems(8, 8, 8, 8, 8, 8, 8, 9), x -> x.odds(3), NOT);
        for (int c = 0; c < 8; c++) {
            int[] items = new int[8];
            items[c] = 64;
            WarnLines x = withItems(items);
            Due.due("all of class " + c, x.odds(3), 1);
            for (int other = 0; other < 8; other++) {
                Due.due("then of class " + other, x.oddsOf(other), other == c ? 64 : 0);
            }
            int[] more = items.clone();
            more[c] = 65;
            Whole.refused("65 of class " + c, () -> withItems(more), y -> y.odds(3), NOT);
            int[] less = items.clone();
            less[c] = 63;
            Whole.refused("63 of class " + c, () -> withItems(less), y -> y.odds(3), NOT);
        }
    }

    private static void oddsBelow0() {
        for (int c = 0; c < 8; c++) {
            int[] items = new int[8];
            items[(c + 1) % 8] = 65;
            items[c] = -1;
            Whole.refused("64 together, below 0 of class " + c, () -> withItems(items), x -> x.odds(3), NOT);
        }
        WarnLines x = Whole.make();
        Whole.sheet(x, 3, 0, 64, 0, 0, 0, 0, 0, 0, 0);
        x.lay(3, 0, 0, 320);
        Due.due("320 as a byte is 64", x.odds(3), 1);
        x.lay(3, 0, 0, 192);
        Due.due("192 as a byte is below 0", x.odds(3), NOT);
    }

    private static void oddsByWrapping() {
        int quarter = 1 << 30;
        Whole.refused("64 by wrapping", () -> withItems(quarter, quarter, quarter, quarter, 64, 0, 0, 0),
            x -> x.odds(3), NOT);
        Whole.refused("64 by wrapping of two", () -> withItems(MOST, MOST, 66, 0, 0, 0, 0, 0), x -> x.odds(3), NOT);
    }

    private static void oddsOfAllForms() {
        for (int form = 0; form < 3; form++) {
            WarnLines x = new WarnLines();
            Whole.sheet(x, 0, form, 1, 2, 3, 4, 5, 6, 7, 36);
            Due.due("of form " + form, x.odds(0), 1);
            Due.due("the first", x.oddsOf(0), 1);
            Due.due("the last", x.oddsOf(7), 36);
            x.lay(0, form, 0, 0);
            Due.due("the sheet's items are copied", x.oddsOf(0), 1);
        }
    }

    private static void oddsOfBounds() {
        Whole.bounds("oddsOf", 0, 7, BAD, WarnLines::oddsOf);
        int[] first = {0, 2, 9, 21, 21, 9, 2, 0};
        for (int c = 0; c < 8; c++) {
            Due.due("at first " + c, new WarnLines().oddsOf(c), first[c]);
        }
    }

    private static void soonBounds() {
        Whole.bounds("soon: text", 0, 1, Due.LONG_BAD, (x, n) -> x.soon(n, 1, 0, true, 0));
        Whole.bounds("soon: m", 1, 9, Due.LONG_BAD, (x, n) -> x.soon(0, n, 0, true, 0));
        Whole.bounds("soon: d", -7, 7, Due.LONG_BAD, (x, n) -> x.soon(0, 1, n, false, 0));
        Whole.bounds("soon: what", 0, 1, Due.LONG_BAD, (x, n) -> x.soon(0, 1, 0, false, n));
    }

    private static WarnLines withRules(String rules) {
        WarnLines x = Whole.make();
        Due.write(x, 0, rules);
        return x;
    }

    private static void soonRefusals() {
        String[] wrong = {"z1/1>0;", "z1/1>4", "r2", "a3", "z1/1>0;r9", "z1/1>0;a9", "a3;z1/1>0", "r2;z1/1>0", "r", "x",
            "r2;r2;r2;r2;r2;r2;r2;r2;r2"};
        for (String rules : wrong) {
            for (int what = 0; what < 2; what++) {
                int it = what;
                Whole.refused("just, of " + rules, () -> withRules(rules), x -> x.soon(0, 1, 0, true, it),
                    Due.LONG_NOT);
                Whole.refused("up to, of " + rules, () -> withRules(rules), x -> x.soon(0, 9, 7, false, it),
                    Due.LONG_NOT);
            }
            Due.due("the other text is of z alone", withRules(rules).soon(1, 1, 0, true, 1) > 0 ? 1 : 0, 1);
            Whole.refused("BAD goes ahead: m", () -> withRules(rules), x -> x.soon(0, 10, 0, true, 0), Due.LONG_BAD);
            Whole.refused("BAD goes ahead: d", () -> withRules(rules), x -> x.soon(0, 1, -8, true, 0), Due.LONG_BAD);
            Whole.refused("BAD goes ahead: what", () -> withRules(rules), x -> x.soon(0, 1, 0, true, 2), Due.LONG_BAD);
        }
    }

    private static void chanceIs(String name, WarnLines x, int m, int d, boolean just, long above, long below) {
        Due.due(name + " m " + m + " d " + d + ", above", x.soon(0, m, d, just, 0), above);
        Due.due(name + " m " + m + " d " + d + ", below", x.soon(0, m, d, just, 1), below);
    }

    private static void soonOfNoRules() {
        for (int m = 1; m <= 9; m += 4) {
            for (int d = -7; d <= 7; d += 7) {
                chanceIs("no rules, just", new WarnLines(), m, d, true, 0, 1);
                chanceIs("no rules, up to", new WarnLines(), m, d, false, 0, 1);
            }
        }
    }

    private static void soonNeedsNoGroups() {
        WarnLines x = new WarnLines();
        Due.write(x, 0, "z1/1>0");
        chanceIs("no groups", x, 1, 0, true, 1, 1);
        WarnLines many = Whole.noMiddle();
        Due.write(many, 0, "z1/1>0");
        chanceIs("no middle", many, 1, 0, true, 1, 1);
    }

    private static WarnLines allOf(int c, String rules) {
        WarnLines x = new WarnLines();
        x.sheet(0, 0, 8);
        x.lay(0, 0, c, 64);
        x.odds(0);
        Due.write(x, 0, rules);
        return x;
    }

    private static void soonShiftedToTheEnds() {
        int[] zones = {3, 2, 1, 0, 0, 1, 2, 3};
        for (int c = 0; c < 8; c++) {
            for (int zone = 0; zone <= 3; zone++) {
                WarnLines x = allOf(c, "z1/1>" + zone);
                for (int d = -7; d <= 7; d++) {
                    int to = c + d < 0 ? 0 : c + d > 7 ? 7 : c + d;
                    chanceIs("class " + c + " in zone " + zone, x, 1, d, true, zones[to] >= zone ? 1 : 0, 1);
                }
            }
        }
        // Half below and half above the middle: with a shift of 1 or -1 both are on one side.
        WarnLines x = new WarnLines();
        Whole.sheet(x, 0, 0, 0, 0, 0, 32, 32, 0, 0, 0);
        x.odds(0);
        Due.write(x, 0, "z2/2>0");
        chanceIs("on both sides", x, 2, 0, true, 1, 2);
        chanceIs("all above", x, 2, 1, true, 1, 1);
        chanceIs("all below", x, 2, -1, true, 1, 1);
    }

    private static void soonAtTheFirstOnes() {
        for (int n = 1; n <= 5; n++) {
            for (int k = 1; k <= n; k++) {
                WarnLines x = allOf(7, "z" + k + "/" + n + ">3");
                for (int m = 1; m <= 9; m++) {
                    chanceIs(k + " of " + n + " just", x, m, 0, true, m == k ? 1 : 0, 1);
                    chanceIs(k + " of " + n + " up to", x, m, 0, false, m >= k ? 1 : 0, 1);
                }
            }
        }
    }

    private static void soonJustAndUpTo() {
        WarnLines x = new WarnLines();
        Whole.sheet(x, 0, 0, 0, 0, 0, 0, 32, 0, 0, 32);
        x.odds(0);
        Due.write(x, 0, "z1/1>3");
        for (int m = 1; m <= 9; m++) {
            chanceIs("a coin, just", x, m, 0, true, 1, 1L << m);
            chanceIs("a coin, up to", x, m, 0, false, (1L << m) - 1, 1L << m);
        }
    }

    /** Far ones and near ones by halves: two far ones so many apart warn, and no farther apart. */
    private static void soonOfTheLastNAndNoMore() {
        WarnLines x = new WarnLines();
        Whole.sheet(x, 0, 0, 0, 0, 0, 0, 32, 0, 0, 32);
        x.odds(0);
        for (int n = 2; n <= 5; n++) {
            Due.write(x, 0, "z2/" + n + ">3");
            for (int m = 1; m <= 9; m++) {
                long ways = 0;
                for (int far = 0; far < 1 << m; far++) {
                    ways += firstAtTheEnd(far, m, n) ? 1 : 0;
                }
                long less = Math.max(1, Math.min(ways & -ways, 1L << m));
                chanceIs("two of " + n, x, m, 0, true, ways / less, ways == 0 ? 1 : (1L << m) / less);
            }
        }
    }

    private static boolean firstAtTheEnd(int far, int m, int n) {
        for (int at = 0; at < m; at++) {
            boolean warns = Integer.bitCount(far >> Math.max(0, at - n + 1) & (1 << Math.min(n, at + 1)) - 1) >= 2;
            if (warns) {
                return at == m - 1;
            }
        }
        return false;
    }

    private static void soonOfTheGreatestFraction() {
        WarnLines x = new WarnLines();
        Whole.sheet(x, 0, 0, 0, 0, 0, 31, 32, 0, 0, 1);
        x.odds(0);
        Due.write(x, 0, "z1/1>3");
        long stay = 1;
        for (int m = 1; m <= 9; m++) {
            chanceIs("one of 64, just", x, m, 0, true, stay, 1L << 6 * m);
            stay *= 63;
            chanceIs("one of 64, up to", x, m, 0, false, (1L << 6 * m) - stay, 1L << 6 * m);
        }
        Whole.sheet(x, 0, 0, 0, 0, 0, 31, 32, 0, 1, 0);
        x.odds(0);
        chanceIs("never", x, 9, 0, false, 0, 1);
        chanceIs("with a shift", x, 1, 1, false, 1, 64);
    }

    private static void cheaperBounds() {
        Whole.bounds("cheaper: m", 1, 9, Due.LONG_BAD, (x, n) -> x.cheaper(n, 0, 0));
        Whole.bounds("cheaper: d", -7, 7, Due.LONG_BAD, (x, n) -> x.cheaper(1, n, 0));
        Whole.bounds("cheaper: what", 0, 2, Due.LONG_BAD, (x, n) -> x.cheaper(1, 0, n));
    }

    private static WarnLines withOther(String rules) {
        WarnLines x = Whole.make();
        Due.write(x, 1, rules);
        return x;
    }

    private static void cheaperRefusals() {
        for (String rules : new String[] {"z1/1>0;", "r2", "a3", "z1/1>0;r2", "z1/1>0;a3", "q"}) {
            for (int what = 0; what < 3; what++) {
                int it = what;
                Whole.refused("text 0 is " + rules, () -> withRules(rules), x -> x.cheaper(1, 0, it), Due.LONG_NOT);
                Whole.refused("text 1 is " + rules, () -> withOther(rules), x -> x.cheaper(1, 0, it), Due.LONG_NOT);
            }
            Whole.refused("BAD goes ahead: m", () -> withRules(rules), x -> x.cheaper(0, 0, 0), Due.LONG_BAD);
            Whole.refused("BAD goes ahead: d", () -> withOther(rules), x -> x.cheaper(1, 8, 0), Due.LONG_BAD);
            Whole.refused("BAD goes ahead: what", () -> withOther(rules), x -> x.cheaper(1, 0, 3), Due.LONG_BAD);
        }
        Whole.refused("both have faults", Whole::withFaults, x -> x.cheaper(1, 0, 2), Due.LONG_NOT);
        Due.due("no middle is asked", Whole.noMiddle().cheaper(1, 0, 1) > 0 ? 1 : 0, 1);
    }

    private static void costIs(String name, WarnLines x, int m, int d, long which, long above, long below) {
        Due.due(name + ": which", x.cheaper(m, d, 2), which);
        Due.due(name + ": cost above", x.cheaper(m, d, 0), above);
        Due.due(name + ": cost below", x.cheaper(m, d, 1), below);
    }

    private static void cheaperOfLikeOnes() {
        WarnLines x = new WarnLines();
        costIs("two empty ones", x, 1, 0, 0, 10, 1);
        Due.write(x, 0, "z1/1>0");
        costIs("at once or never, as dear", x, 9, 7, 0, 10, 1);
        x.set(8, 11);
        costIs("never is cheaper", x, 9, 7, 1, 10, 1);
        x.set(9, 11);
        costIs("as dear again", x, 9, 7, 0, 11, 1);
        x.set(9, 12);
        costIs("at once is cheaper", x, 9, 7, 0, 11, 1);
        // One of 64 is far: five of them in a row are the seldomest that can warn.
        WarnLines least = new WarnLines();
        Whole.sheet(least, 0, 0, 0, 0, 0, 31, 32, 0, 0, 1);
        least.odds(0);
        Due.write(least, 0, "z5/5>3");
        Due.write(least, 1, "z5/5>3;z5/5>3");
        least.set(9, 0);
        costIs("the same rule twice", least, 5, 0, 0, 5, 1L << 29);
        Due.write(least, 1, "z5/5>3;z4/4>3");
        Due.due("one more rule warns more", least.cheaper(5, 0, 2), 0);
        least.set(8, 0);
        least.set(9, 10);
        Due.due("late, it is cheaper", least.cheaper(5, 0, 2), 1);
    }

    private static void cheaperAtTheEndsOfCosts() {
        // All are of class 0: far below without a shift, near with a shift of 3.
        WarnLines x = allOf(0, "z1/1>3");
        Due.write(x, 1, "z1/1>3;z1/1>3");
        for (int m = 1; m <= 9; m++) {
            costIs("in vain and late, m " + m, x, m, 3, 0, 20, 1);
        }
        x.set(8, 99);
        x.set(9, 99);
        costIs("the dearest", x, 9, 3, 0, 198, 1);
        x.set(9, 0);
        costIs("FALSE alone", x, 9, 3, 0, 99, 1);
        x.set(8, 0);
        costIs("nothing", x, 9, 3, 0, 0, 1);
        x.set(9, 99);
        costIs("LATE alone", x, 9, 3, 0, 99, 1);
        costIs("without a shift it is never late", x, 9, 0, 0, 0, 1);
        x.wipe(1);
        costIs("no rules are late", x, 9, 0, 0, 0, 1);
        x.set(8, 99);
        x.set(9, 98);
        costIs("no rules are cheaper", x, 9, 3, 1, 98, 1);
        WarnLines odd = new WarnLines();
        Whole.sheet(odd, 0, 0, 0, 0, 0, 31, 32, 0, 0, 1);
        odd.odds(0);
        Due.write(odd, 0, "z1/1>3");
        Due.write(odd, 1, "z1/1>3");
        odd.set(8, 99);
        odd.set(9, 0);
        long stay = 1;
        for (int m = 1; m <= 9; m++) {
            stay *= 63;
            costIs("99 times nearly all, m " + m, odd, m, 0, 0, 99 * ((1L << 6 * m) - stay), 1L << 6 * m);
        }
    }
}

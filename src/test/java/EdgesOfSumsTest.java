/** The boundaries that promises 20 to 24 and the terms of running sums name: sum, over, cause, blamed, smoothed. */
public final class EdgesOfSumsTest {
    private static final int NONE = WarnLines.NONE, BAD = WarnLines.BAD, NOT = WarnLines.NOT, FULL = WarnLines.FULL;

    public static void main(String[] args) {
        sumBounds();
        sumRefusals();
        sumsBeginAt0();
        sumsAre0AtLeast();
        slackAtItsEnds();
        theGreatestSums();
        overBounds();
        overRefusals();
        overIsMoreThanTold();
        overAtTheEndsOfWhatIsTold();
        overInFractions();
        overByTheLeastPart();
        overOnAnySideOf0();
        oneGroupAlone();
        beganBehindTheLast0();
        beganAtTheFirst();
        overOnEitherSide();
        nearestAtItOrAhead();
        nearestOfLikeOnes();
        causeBounds();
        causeUpToTwelve();
        causesWithoutGroups();
        blamedBounds();
        blamedRefusals();
        blamedFromNumbersAhead();
        blamedAtTheEnds();
        blamedOfLikeOnes();
        smoothedBounds();
        smoothedOfBlankOnes();
        smoothedByEighths();
        Due.close();
    }

    private static void sumBounds() {
        Whole.bounds("sum: group", 0, 4, Due.LONG_BAD, (x, n) -> x.sum(n, 1, 0));
        Whole.bounds("sum: what", 0, 1, Due.LONG_BAD, (x, n) -> x.sum(0, -1, n));
        for (int side : new int[] {0, 2, -2, 3, Integer.MIN_VALUE, Integer.MAX_VALUE}) {
            Whole.refused("sum: side " + side, x -> x.sum(0, side, 0), Due.LONG_BAD);
        }
        Due.due("side 1", Whole.make().sum(0, 1, 1) > 0 ? 1 : 0, 1);
        Due.due("side -1", Whole.make().sum(0, -1, 1) > 0 ? 1 : 0, 1);
    }

    private static void sumRefusals() {
        for (int side = -1; side <= 1; side += 2) {
            for (int what = 0; what < 2; what++) {
                int its = side;
                int part = what;
                Whole.refused("a blank one", x -> x.sum(2, its, part), Due.LONG_NOT);
                Whole.refused("no middle", Whole::noMiddle, x -> x.sum(0, its, part), Due.LONG_NOT);
            }
        }
        Whole.refused("BAD goes ahead of blank: side", x -> x.sum(2, 0, 0), Due.LONG_BAD);
        Whole.refused("BAD goes ahead of blank: what", x -> x.sum(2, 1, 2), Due.LONG_BAD);
        Whole.refused("BAD goes ahead of no middle", Whole::noMiddle, x -> x.sum(5, 1, 0), Due.LONG_BAD);
    }

    /** The base is a group at 100 behind all of these. */
    private static WarnLines around100(int slack, int... means) {
        WarnLines x = Due.row(means);
        Due.group(x, 100);
        x.set(0, means.length);
        x.set(4, slack);
        return x;
    }

    private static void sumsAre(WarnLines x, int side, int... due) {
        for (int g = 0; g < due.length; g++) {
            Due.due("sum of side " + side + " at " + g, x.sum(g, side, 0), due[g]);
            Due.due("sum of side " + side + " at " + g + ", below", x.sum(g, side, 1), 1);
        }
    }

    private static void sumsBeginAt0() {
        WarnLines x = around100(1, 105, 100);
        sumsAre(x, 1, 4, 3, 2);
        sumsAre(x, -1, 0, 0, 0);
        WarnLines below = around100(1, 95, 100);
        sumsAre(below, 1, 0, 0, 0);
        sumsAre(below, -1, 4, 3, 2);
        sumsAre(around100(1), 1, 0);
    }

    private static void sumsAre0AtLeast() {
        WarnLines x = around100(2, 105, 101, 101, 101, 102, 103, 0, 103);
        sumsAre(x, 1, 3, 2, 1, 0, 0, 1, 0, 1);
        sumsAre(x, -1, 0, 0, 0, 0, 0, 0, 98, 93);
        WarnLines least = around100(3, 105, 99, 100, 98);
        sumsAre(least, 1, 2, 0, 0, 0);
        sumsAre(least, -1, 0, 0, 0, 0);
    }

    private static void slackAtItsEnds() {
        WarnLines x = around100(0, 101, 99, 99, 101, 101);
        sumsAre(x, 1, 1, 0, 0, 1, 2);
        sumsAre(x, -1, 0, 1, 2, 1, 0);
        x.set(4, 1);
        sumsAre(x, 1, 0, 0, 0, 0, 0);
        sumsAre(x, -1, 0, 0, 0, 0, 0);
        WarnLines wide = around100(99, 199, 200, 1, 0, 300);
        sumsAre(wide, 1, 0, 1, 0, 0, 101);
        sumsAre(wide, -1, 0, 0, 0, 1, 0);
        WarnLines first = Due.row(5, 6);
        first.set(1, 0);
        Due.due("1 at first", first.sum(1, 1, 0), 0);
    }

    private static void theGreatestSums() {
        int[] most = new int[19];
        java.util.Arrays.fill(most, 999);
        WarnLines x = Due.row(most);
        Due.group(x, 0);
        x.set(0, 19);
        x.set(4, 0);
        Due.due("nineteen of 999", x.sum(18, 1, 0), 18981);
        Due.due("at the last", x.sum(19, 1, 0), 18981);
        Due.due("none below", x.sum(18, -1, 0), 0);
        x.told(19, 0, 999, 0);
        for (int g = 0; g < 19; g++) {
            x.told(g, 0, 0, 0);
        }
        Due.due("nineteen of 999 below", x.sum(18, -1, 0), 18981);
        Due.due("none above", x.sum(18, 1, 0), 0);
    }

    private static void overBounds() {
        Whole.bounds("over", 0, 3, BAD, WarnLines::over);
    }

    private static void overRefusals() {
        for (int what = 0; what < 4; what++) {
            int it = what;
            Whole.refused("no middle, " + it, Whole::noMiddle, x -> x.over(it), NOT);
        }
        Whole.refused("BAD goes ahead, 4", Whole::noMiddle, x -> x.over(4), BAD);
        Whole.refused("BAD goes ahead, -1", Whole::noMiddle, x -> x.over(-1), BAD);
        WarnLines x = around100(1, 109);
        x.cause(1, 0);
        for (int what = 0; what < 4; what++) {
            Due.due("there is none, " + what, x.over(what), NONE);
        }
    }

    private static void overIs(WarnLines x, int limit, int group, int side, int began) {
        x.set(5, limit);
        Due.due("more than " + limit, x.over(0), group);
        Due.due("more than " + limit + ", side", x.over(1), side);
        Due.due("more than " + limit + ", began", x.over(2), began);
    }

    private static void overIsMoreThanTold() {
        WarnLines x = around100(1, 110, 102, 100);
        Due.due("9 is not more than 9", x.over(0), 1);
        overIs(x, 8, 0, 1, 0);
        overIs(x, 9, 1, 1, 0);
        overIs(x, 10, NONE, NONE, NONE);
        WarnLines down = around100(1, 90, 98, 100);
        overIs(down, 8, 0, 2, 0);
        overIs(down, 9, 1, 2, 0);
        overIs(down, 10, NONE, NONE, NONE);
    }

    private static void overAtTheEndsOfWhatIsTold() {
        WarnLines x = around100(1, 101, 102, 100);
        overIs(x, 0, 1, 1, 1);
        overIs(x, 1, NONE, NONE, NONE);
        int[] means = new int[19];
        java.util.Arrays.fill(means, 909);
        WarnLines most = Due.row(means);
        Due.group(most, 0);
        most.set(0, 19);
        most.set(4, 0);
        Due.due("eleven of 909", most.sum(10, 1, 0), 9999);
        overIs(most, 9999, 11, 1, 0);
        overIs(most, 9998, 10, 1, 0);
    }

    private static void overInFractions() {
        WarnLines x = new WarnLines();
        Due.group(x, 109, 110, 110);
        Due.group(x, 100, 100, 100, 100, 102);
        Due.group(x, 100);
        x.set(0, 2);
        x.set(4, 0);
        // Ups are 29/3, 151/15: 9 and two thirds, 10 and a fifteenth.
        Due.due("above", x.sum(1, 1, 0), 151);
        Due.due("below", x.sum(1, 1, 1), 15);
        overIs(x, 9, 0, 1, 0);
        overIs(x, 10, 1, 1, 0);
        overIs(x, 11, NONE, NONE, NONE);
    }

    /** Means of 504 by 5, 401 by 4 and 304 by 3: the first one is a hundred and eightieth above the middle. */
    private static void overByTheLeastPart() {
        WarnLines x = new WarnLines();
        Due.group(x, 95, 106, 101, 100, 102);
        Due.group(x, 95, 106, 100, 100);
        Due.group(x, 95, 106, 103);
        x.set(2, 999);
        x.set(4, 0);
        Due.due("none is left out", x.leftOut(), 0);
        Due.due("up, above", x.sum(0, 1, 0), 1);
        Due.due("up, below", x.sum(0, 1, 1), 180);
        overIs(x, 0, 0, 1, 0);
        // Down likewise, the other way round the middle.
        WarnLines down = new WarnLines();
        Due.group(down, 105, 94, 99, 100, 98);
        Due.group(down, 105, 94, 100, 100);
        Due.group(down, 105, 94, 97);
        down.set(2, 999);
        down.set(4, 0);
        Due.due("down, above", down.sum(0, -1, 0), 1);
        Due.due("down, below", down.sum(0, -1, 1), 180);
        overIs(down, 0, 0, 2, 0);
        overIs(down, 1, NONE, NONE, NONE);
    }

    private static void overOnAnySideOf0() {
        WarnLines down = around100(1, 100, 98, 100);
        overIs(down, 0, 1, 2, 1);
        overIs(down, 1, NONE, NONE, NONE);
        WarnLines up = around100(1, 100, 102, 100);
        overIs(up, 0, 1, 1, 1);
        overIs(up, 1, NONE, NONE, NONE);
    }

    private static void oneGroupAlone() {
        WarnLines x = Due.row(700);
        for (int slack = 0; slack <= 99; slack += 99) {
            x.set(4, slack);
            x.set(5, 0);
            sumsAre(x, 1, 0);
            sumsAre(x, -1, 0);
            Due.due("it is not over", x.over(0), NONE);
        }
        x.group();
        x.told(1, 0, -1, 0);
        sumsAre(x, -1, 0);
        Due.due("smoothed", x.smoothed(0), 700000);
    }

    private static void beganBehindTheLast0() {
        // Up: 4, 0, 0, 3, 2, 0, 0, 4, 8, 12.
        WarnLines x = around100(1, 105, 97, 100, 104, 100, 99, 101, 105, 105, 105);
        overIs(x, 9, 9, 1, 7);
        overIs(x, 4, 8, 1, 7);
        overIs(x, 3, 0, 1, 0);
        WarnLines at = around100(1, 105, 90, 120);
        overIs(at, 18, 2, 1, 2);
        WarnLines blank = around100(1, 101, 500, 103, 103);
        blank.told(1, 0, -1, 0);
        overIs(blank, 3, 3, 1, 2);
        WarnLines between = around100(1, 101, 103, 500, 103);
        between.told(2, 0, -1, 0);
        overIs(between, 3, 3, 1, 1);
    }

    private static void beganAtTheFirst() {
        WarnLines x = around100(1, 102, 102, 102, 102);
        overIs(x, 3, 3, 1, 0);
        WarnLines down = around100(1, 98, 98, 98, 98);
        overIs(down, 3, 3, 2, 0);
        WarnLines blank = around100(1, 500, 102, 102);
        blank.told(0, 0, -1, 0);
        overIs(blank, 1, 2, 1, 1);
    }

    private static void overOnEitherSide() {
        // Up: 0, 0, 5, 4, 3, 2, 1; down: 3, 6, 0, 0, 0, 0, 0.
        WarnLines x = around100(1, 96, 96, 106, 100, 100, 100, 100);
        overIs(x, 5, 1, 2, 0);
        overIs(x, 4, 1, 2, 0);
        overIs(x, 6, NONE, NONE, NONE);
        // Without slack both stand beside each other: up 10, 8, 13; down 0, 2, 0.
        WarnLines both = around100(0, 110, 98, 105);
        overIs(both, 1, 0, 1, 0);
        overIs(both, 10, 2, 1, 0);
        WarnLines down = around100(0, 103, 91, 98);
        overIs(down, 4, 1, 2, 1);
        overIs(down, 9, 2, 2, 1);
    }

    private static WarnLines begunAt5() {
        WarnLines x = around100(1, 100, 100, 100, 100, 100, 111, 100);
        Due.due("began", x.over(2), 5);
        Due.due("no causes", x.over(3), NONE);
        return x;
    }

    private static void nearestAtItOrAhead() {
        for (int number = 0; number < 20; number++) {
            WarnLines x = begunAt5();
            x.cause(4, number);
            Due.due("a cause at " + number, x.over(3), number <= 5 ? 4 : NONE);
        }
        WarnLines x = begunAt5();
        x.cause(0, 6);
        Due.due("one behind it", x.over(3), NONE);
        x.cause(1, 0);
        Due.due("the farthest ahead", x.over(3), 1);
        x.cause(2, 4);
        Due.due("one ahead", x.over(3), 2);
        x.cause(3, 3);
        Due.due("told later, farther", x.over(3), 2);
        x.cause(5, 5);
        Due.due("at it", x.over(3), 5);
        x.cause(3, 4);
        Due.due("told later, ahead", x.over(3), 5);
        WarnLines first = around100(1, 111);
        first.cause(0, 0);
        Due.due("kind 0 at number 0", first.over(3), 0);
        first.set(5, 999);
        Due.due("not over", first.over(3), NONE);
    }

    private static void nearestOfLikeOnes() {
        WarnLines x = begunAt5();
        x.cause(3, 2);
        x.cause(1, 2);
        Due.due("the last told, less", x.over(3), 1);
        x.cause(5, 2);
        Due.due("the last told, more", x.over(3), 5);
        x.cause(5, 1);
        x.cause(4, 7);
        Due.due("others leave it", x.over(3), 5);
    }

    private static void causeBounds() {
        Whole.bounds("cause: kind", 0, 5, BAD, (x, n) -> x.cause(n, 0));
        Whole.bounds("cause: number", 0, 19, BAD, (x, n) -> x.cause(0, n));
    }

    private static void causeUpToTwelve() {
        WarnLines x = begunAt5();
        for (int n = 1; n <= 12; n++) {
            Due.due("cause " + n, x.cause(n % 6, 5), n);
            Due.due("causes", x.count(4), n);
            Due.due("it is the last told", x.over(3), n % 6);
        }
        Due.due("cause 13", x.cause(3, 5), FULL);
        Due.due("it is not told", x.over(3), 0);
        Whole.refused("a thirteenth", Whole::twelveCauses, y -> y.cause(0, 0), FULL);
        Whole.refused("BAD goes ahead: kind", Whole::twelveCauses, y -> y.cause(6, 0), BAD);
        Whole.refused("BAD goes ahead: number", Whole::twelveCauses, y -> y.cause(0, 20), BAD);
    }

    private static void causesWithoutGroups() {
        WarnLines x = new WarnLines();
        Due.due("no group is there yet", x.cause(5, 19), 1);
        for (int g = 0; g < 20; g++) {
            Due.group(x, g < 19 ? 100 : 111);
        }
        x.set(1, 0);
        Due.due("it is there now", x.over(3), 5);
    }

    private static void blamedBounds() {
        Whole.bounds("blamed: text", 0, 1, BAD, WarnLines::blamed);
    }

    private static void blamedRefusals() {
        for (int text = 0; text < 2; text++) {
            int its = text;
            Whole.refused("a fault", Whole::withFaults, x -> x.blamed(its), NOT);
            Whole.refused("no middle", Whole::noMiddle, x -> x.blamed(its), NOT);
        }
        Whole.refused("BAD goes ahead of a fault", Whole::withFaults, x -> x.blamed(2), BAD);
        Whole.refused("BAD goes ahead of no middle", Whole::noMiddle, x -> x.blamed(-1), BAD);
        WarnLines x = Whole.make();
        x.wipe(0);
        Due.due("none warns", x.blamed(0), NONE);
    }

    /** Group 10 alone warns, by text 0, and the cause is at so many numbers ahead of it. */
    private static void blamedFromNumbersAhead() {
        for (int ahead = 0; ahead <= 10; ahead++) {
            WarnLines x = around100(1, 100, 100, 100, 100, 100, 100, 100, 100, 100, 100, 111, 100);
            Due.write(x, 0, "z1/1>0");
            x.cause(0, 10 - ahead);
            Due.due("2 at first: " + ahead + " ahead", x.blamed(0), ahead <= 2 ? 0 : NONE);
            x.set(6, ahead);
            Due.due("as many as told: " + ahead, x.blamed(0), 0);
            if (ahead > 0) {
                x.set(6, ahead - 1);
                Due.due("one fewer than " + ahead, x.blamed(0), NONE);
            }
        }
        WarnLines behind = around100(1, 100, 111, 100);
        Due.write(behind, 0, "z1/1>0");
        behind.cause(1, 2);
        behind.set(6, 19);
        Due.due("one behind its own number", behind.blamed(0), NONE);
        behind.cause(1, 1);
        Due.due("at its own number", behind.blamed(0), 1);
    }

    private static void blamedAtTheEnds() {
        WarnLines x = new WarnLines();
        for (int g = 0; g < 20; g++) {
            Due.group(x, g == 0 || g == 19 ? 111 : 100);
        }
        x.set(0, 1);
        x.set(1, 1);
        Due.write(x, 1, "z1/1>0");
        x.cause(5, 0);
        Due.due("the first group", x.blamed(1), 5);
        x.set(6, 18);
        x.cause(4, 19);
        Due.due("one each: the least", x.blamed(1), 4);
        x.set(6, 19);
        Due.due("nineteen ahead of the last: two", x.blamed(1), 5);
        x.set(6, 0);
        Due.due("none ahead: one each", x.blamed(1), 4);
    }

    private static void blamedOfLikeOnes() {
        WarnLines x = around100(1, 111, 111, 111, 100);
        Due.write(x, 0, "z1/1>0");
        x.set(6, 0);
        for (int kind = 5; kind >= 0; kind--) {
            x.cause(kind, kind % 3);
            Due.due("of like ones the least", x.blamed(0), kind);
        }
        x.cause(5, 2);
        x.cause(5, 2);
        Due.due("told again of the same group it is one", x.blamed(0), 0);
        x.cause(5, 1);
        Due.due("most groups", x.blamed(0), 5);
    }

    private static void smoothedBounds() {
        Whole.bounds("smoothed: group", 0, 4, BAD, WarnLines::smoothed);
    }

    private static void smoothedOfBlankOnes() {
        Whole.refused("a blank one", x -> x.smoothed(2), NOT);
        Whole.refused("a blank one without a middle", Whole::noMiddle, x -> x.smoothed(2), NOT);
        Due.due("no middle is asked", Whole.noMiddle().smoothed(4) > 0 ? 1 : 0, 1);
        WarnLines x = new WarnLines();
        x.group();
        Due.due("a blank one alone", x.smoothed(0), NOT);
        Due.group(x, 6);
        Due.due("the first that is not", x.smoothed(1), 6000);
    }

    private static void smoothedByEighths() {
        WarnLines x = new WarnLines();
        Due.group(x, 0);
        Due.group(x, 999);
        Due.due("2 of 8 at first", x.smoothed(1), 249750);
        int[] due = {124875, 249750, 374625, 499500, 624375, 749250, 874125, 999000};
        for (int w = 1; w <= 8; w++) {
            x.set(7, w);
            Due.due("w " + w, x.smoothed(1), due[w - 1]);
            Due.due("w " + w + ", the first", x.smoothed(0), 0);
        }
        WarnLines cut = new WarnLines();
        Due.group(cut, 0, 0, 1);
        Due.group(cut, 0, 0, 1);
        Due.group(cut, 0, 0, 1);
        // 333 and a third's eighth: 333 + 1/24 is cut to 333 again, at each group.
        cut.set(7, 1);
        Due.due("cut at each group", cut.smoothed(2), 333);
        cut.set(7, 8);
        Due.due("cut at the last", cut.smoothed(2), 333);
        WarnLines down = new WarnLines();
        Due.group(down, 0, 1);
        Due.group(down, 0);
        Due.group(down, 0);
        down.set(7, 1);
        Due.due("500 less 62.5 is cut to 437", down.smoothed(1), 437);
        Due.due("437 less 54.625 is cut to 382", down.smoothed(2), 382);
    }
}

/** Promises 20 to 24: sum, over, cause, blamed, smoothed. */
public final class SumsTest {
    private static final int NONE = WarnLines.NONE, BAD = WarnLines.BAD, NOT = WarnLines.NOT, FULL = WarnLines.FULL;

    public static void main(String[] args) {
        sum();
        sumOfParts();
        sumRefusals();
        over();
        overDown();
        overRefusals();
        nearest();
        cause();
        blamed();
        blamedRefusals();
        smoothed();
        Due.close();
    }

    /** The base is the first group alone. */
    private static WarnLines from(int... means) {
        WarnLines x = Due.row(means);
        x.set(1, 0);
        return x;
    }

    private static void sum() {
        WarnLines x = from(10, 13, 9, 11, 11, 20, 4, 4);
        int[] up = {0, 2, 0, 0, 0, 9, 2, 0};
        int[] down = {0, 0, 0, 0, 0, 0, 5, 10};
        for (int g = 0; g < up.length; g++) {
            Due.due("up at " + g, x.sum(g, 1, 0), up[g]);
            Due.due("up at " + g + ", below", x.sum(g, 1, 1), 1);
            Due.due("down at " + g, x.sum(g, -1, 0), down[g]);
        }
        x.set(4, 0);
        int[] upAll = {0, 3, 2, 3, 4, 14, 8, 2};
        int[] downAll = {0, 0, 1, 0, 0, 0, 6, 12};
        for (int g = 0; g < up.length; g++) {
            Due.due("without slack, up at " + g, x.sum(g, 1, 0), upAll[g]);
            Due.due("without slack, down at " + g, x.sum(g, -1, 0), downAll[g]);
        }
        x.told(4, 0, -1, 0);
        Due.due("a blank one is left out", x.sum(5, 1, 0), 13);
        Due.due("and has no sum", x.sum(4, 1, 0), Due.LONG_NOT);
    }

    private static void sumOfParts() {
        WarnLines x = new WarnLines();
        Due.group(x, 10, 11);
        Due.group(x, 10, 10, 11);
        Due.group(x, 14);
        x.set(1, 1);
        // The middle is 125/12; 14 less it and 1 is 31/12.
        Due.due("above", x.sum(2, 1, 0), 31);
        Due.due("below", x.sum(2, 1, 1), 12);
    }

    private static void sumRefusals() {
        WarnLines x = new WarnLines();
        Due.due("no group", x.sum(0, 1, 0), Due.LONG_BAD);
        x.group();
        Due.due("blank", x.sum(0, 1, 0), Due.LONG_NOT);
        Due.group(x, 5);
        Due.due("side 0", x.sum(1, 0, 0), Due.LONG_BAD);
        Due.due("side 2", x.sum(1, 2, 0), Due.LONG_BAD);
        Due.due("side -2", x.sum(1, -2, 0), Due.LONG_BAD);
        Due.due("what 2", x.sum(1, 1, 2), Due.LONG_BAD);
        Due.due("what -1", x.sum(1, 1, -1), Due.LONG_BAD);
        Due.due("group 2", x.sum(2, 1, 0), Due.LONG_BAD);
        Due.due("group -1", x.sum(-1, 1, 0), Due.LONG_BAD);
        Due.due("a blank one, wrong too", x.sum(0, 0, 0), Due.LONG_BAD);
        x.set(1, 0);
        Due.due("no middle", x.sum(1, 1, 0), Due.LONG_NOT);
    }

    private static void overIs(WarnLines x, String when, int group, int side, int began) {
        Due.due(when + ": group", x.over(0), group);
        Due.due(when + ": side", x.over(1), side);
        Due.due(when + ": began", x.over(2), began);
    }

    private static void over() {
        WarnLines x = from(10, 15, 11, 10, 14, 15, 14);
        // Up: 0, 4, 4, 3, 6, 10, 13.
        overIs(x, "more than 9", 5, 1, 1);
        x.set(5, 10);
        overIs(x, "more than 10", 6, 1, 1);
        x.set(5, 13);
        overIs(x, "as much as 13 is not more", NONE, NONE, NONE);
        Due.due("none: nearest", x.over(3), NONE);
        x.set(5, 0);
        overIs(x, "more than 0", 1, 1, 1);
        x.set(5, 3);
        x.set(4, 3);
        // Up: 0, 2, 0, 0, 1, 3, 4.
        overIs(x, "with more slack", 6, 1, 4);
        WarnLines first = Due.row(30, 10);
        first.set(0, 1);
        overIs(first, "at the first group", 0, 1, 0);
        WarnLines later = Due.row(15, 15, 15, 10);
        later.set(0, 3);
        overIs(later, "from the first on", 2, 1, 0);
        WarnLines gap = new WarnLines();
        Due.group(gap, 10);
        Due.group(gap);
        Due.group(gap, 16);
        Due.group(gap);
        Due.group(gap, 16);
        gap.set(1, 0);
        overIs(gap, "with blank ones between", 4, 1, 2);
    }

    private static void overDown() {
        WarnLines x = from(100, 105, 95, 95, 95, 150);
        // Down: 0, 0, 4, 8, 12.
        overIs(x, "down", 4, 2, 2);
        x.set(5, 12);
        overIs(x, "up later", 5, 1, 5);
        x.set(4, 0);
        // Up: 0, 5, 0, 0, 0, 50; down: 0, 0, 5, 10, 15, 0.
        overIs(x, "without slack", 4, 2, 2);
        WarnLines both = from(100, 110, 98, 95);
        both.set(4, 0);
        both.set(5, 6);
        both.set(0, 0);
        // Up: 0, 10: at once; down stays beside it.
        overIs(both, "up first", 1, 1, 1);
    }

    private static void overRefusals() {
        WarnLines x = new WarnLines();
        Due.due("no middle", x.over(0), NOT);
        Due.due("what 4", x.over(4), BAD);
        Due.due("what -1", x.over(-1), BAD);
        Due.group(x, 5);
        for (int what = 0; what < 4; what++) {
            Due.due("none", x.over(what), NONE);
        }
    }

    private static void nearest() {
        WarnLines x = from(10, 10, 10, 15, 15, 15);
        overIs(x, "began at 3", 5, 1, 3);
        Due.due("no cause", x.over(3), NONE);
        x.cause(1, 4);
        Due.due("a later one is none", x.over(3), NONE);
        x.cause(2, 0);
        Due.due("far ahead", x.over(3), 2);
        x.cause(3, 2);
        Due.due("nearer", x.over(3), 3);
        x.cause(4, 1);
        Due.due("farther, told later", x.over(3), 3);
        x.cause(0, 2);
        Due.due("alike, told later", x.over(3), 0);
        x.cause(5, 3);
        Due.due("at it", x.over(3), 5);
        x.cause(1, 3);
        Due.due("at it, told later", x.over(3), 1);
    }

    private static void cause() {
        WarnLines x = new WarnLines();
        Due.due("kind -1", x.cause(-1, 0), BAD);
        Due.due("kind 6", x.cause(6, 0), BAD);
        Due.due("number -1", x.cause(0, -1), BAD);
        Due.due("number 20", x.cause(0, 20), BAD);
        Due.due("none yet", x.count(4), 0);
        for (int i = 1; i <= 12; i++) {
            Due.due("cause " + i, x.cause(i % 6, 20 - i), i);
        }
        Due.due("cause 13", x.cause(0, 0), FULL);
        Due.due("cause 13, wrong too", x.cause(0, 20), BAD);
        Due.due("causes", x.count(4), 12);
    }

    private static void blamed() {
        WarnLines x = from(10, 20, 10, 20, 10, 10, 20);
        Due.write(x, 0, "z1/1>0");
        Due.due("1, 3 and 6 warn", x.warned(0, 1), 3);
        Due.due("no causes", x.blamed(0), NONE);
        x.cause(5, 7);
        x.cause(5, 2);
        Due.due("one group has it", x.blamed(0), 5);
        x.cause(4, 3);
        x.cause(4, 3);
        x.cause(4, 2);
        Due.due("a group has a kind once: of like ones the least", x.blamed(0), 4);
        x.cause(5, 4);
        Due.due("two groups have it", x.blamed(0), 5);
        x.set(6, 1);
        Due.due("one number ahead: like ones", x.blamed(0), 4);
        x.set(6, 0);
        Due.due("at its own number alone", x.blamed(0), 4);
        x.cause(3, 6);
        Due.due("of like ones the least", x.blamed(0), 3);
        x.cause(2, 0);
        x.set(6, 19);
        Due.due("from far ahead: all three", x.blamed(0), 2);
        x.cause(0, 1);
        x.cause(0, 3);
        Due.due("as many have kind 2", x.blamed(0), 0);
        x.set(6, 0);
        Due.due("two have kind 0 at their own number", x.blamed(0), 0);
        x.wipe(0);
        Due.due("none warns", x.blamed(0), NONE);
        WarnLines first = Due.row(20, 10);
        first.set(0, 1);
        first.cause(4, 0);
        Due.write(first, 0, "z1/1>0");
        Due.due("the first group", first.blamed(0), 4);
        WarnLines gap = new WarnLines();
        Due.group(gap, 10);
        Due.group(gap);
        Due.group(gap);
        Due.group(gap, 20);
        gap.set(1, 0);
        gap.cause(1, 0);
        Due.write(gap, 1, "z1/1>0");
        Due.due("numbers count, blank ones too", gap.blamed(1), NONE);
        gap.set(6, 3);
        Due.due("three numbers ahead", gap.blamed(1), 1);
    }

    private static void blamedRefusals() {
        WarnLines x = new WarnLines();
        Due.due("text 2", x.blamed(2), BAD);
        Due.due("text -1", x.blamed(-1), BAD);
        Due.due("no middle", x.blamed(0), NOT);
        Due.group(x, 5);
        Due.write(x, 1, "q");
        Due.due("a fault", x.blamed(1), NOT);
        Due.due("the other text", x.blamed(0), NONE);
    }

    private static void smoothed() {
        WarnLines x = new WarnLines();
        Due.due("no group", x.smoothed(0), BAD);
        Due.group(x, 10, 10, 11);
        Due.group(x);
        Due.group(x, 12);
        Due.group(x, 0);
        Due.due("the first, cut", x.smoothed(0), 10333);
        Due.due("blank", x.smoothed(1), NOT);
        // 10333 and 1667 by 4, which is 416.75; then less 10749 by 4.
        Due.due("then", x.smoothed(2), 10749);
        Due.due("downward", x.smoothed(3), 8061);
        x.set(7, 8);
        Due.due("w 8", x.smoothed(2), 12000);
        x.set(7, 1);
        Due.due("w 1", x.smoothed(2), 10541);
        Due.due("w 1, downward", x.smoothed(3), 9223);
        Due.due("group 4", x.smoothed(4), BAD);
        Due.due("group -1", x.smoothed(-1), BAD);
        x.set(0, 19);
        Due.due("no middle is asked", x.smoothed(2), 10541);
        WarnLines uncut = new WarnLines();
        Due.group(uncut, 0);
        Due.group(uncut, 0, 0, 2);
        uncut.set(7, 3);
        // 2000/3 times 3/8 is 250 just; cut to 666 it would be 249.
        Due.due("the mean is not cut ahead", uncut.smoothed(1), 250);
    }
}

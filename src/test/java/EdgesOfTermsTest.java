/** The boundaries that the terms name, ahead of the first promise: each sentence by itself. */
public final class EdgesOfTermsTest {
    private static final int NONE = WarnLines.NONE, BAD = WarnLines.BAD, NOT = WarnLines.NOT, FULL = WarnLines.FULL;

    public static void main(String[] args) {
        anObjectIsUsedForFiveHundredAndTwelveCalls();
        knownUpToAsOf();
        asOfIs999AtFirst();
        theSpanOfOne();
        aBlankGroupIsLeftOut();
        blankOnesAtTheEnds();
        theBaseIs0To19AtFirst();
        theBaseHasBothItsEnds();
        theBaseHasNothing();
        reachIs58AtFirst();
        onALineIsNotBeyondIt();
        justBeyondALineInFractions();
        beyondALineByTheLeastPart();
        leftOutAreAllBeyondTheThirdLine();
        twoAtLeastAreLeft();
        againAndAgain();
        againUntilTwoWouldNotBeLeft();
        leftOutAtBothEndsOfTheBits();
        fractionsInLowestTerms();
        aSideIsMoreOrLessJust();
        sheetsAreLostAtFirst();
        sheetsOfAllForms();
        findingsByTheirNumbers();
        longRefusals();
        smoothedIsCutDownward();
        Due.close();
    }

    private static void anObjectIsUsedForFiveHundredAndTwelveCalls() {
        WarnLines x = new WarnLines();
        Due.due("call 1", x.group(), 0);
        Due.due("call 2", x.told(0, 0, 5, 0), 1);
        for (int call = 3; call <= 510; call++) {
            Due.due("call " + call, x.base(0, call % 2), call % 2 == 0 ? 5 : 1);
        }
        Due.due("call 511", x.told(0, 1, 7, 0), 2);
        Due.due("call 512", x.base(0, 0), 6);
    }

    private static void knownUpToAsOf() {
        for (int asOf : new int[] {0, 1, 5, 998}) {
            WarnLines x = new WarnLines();
            x.group();
            x.told(0, 0, 10, asOf);
            x.told(0, 1, 20, asOf + 1);
            x.set(3, asOf);
            Due.due("told at " + asOf + ", which is AS OF", x.value(0, 0), 10);
            Due.due("told one behind AS OF " + asOf, x.value(0, 1), NONE);
            Due.due("the mean as of " + asOf, x.of(0, 0, 0), 10);
            Due.due("the values that are known as of " + asOf, x.count(3), 1);
            x.set(3, asOf + 1);
            Due.due("told at " + (asOf + 1), x.value(0, 1), 20);
        }
        WarnLines back = new WarnLines();
        back.group();
        back.told(0, 0, 10, 3);
        back.told(0, 0, -1, 4);
        back.told(0, 0, 30, 5);
        int[] due = {NONE, NONE, NONE, 10, NONE, 30, 30};
        for (int asOf = 0; asOf < due.length; asOf++) {
            back.set(3, asOf);
            Due.due("put right and taken back, as of " + asOf, back.value(0, 0), due[asOf]);
            Due.due("blank as of " + asOf, back.count(1), due[asOf] == NONE ? 1 : 0);
        }
    }

    private static void asOfIs999AtFirst() {
        WarnLines x = new WarnLines();
        x.group();
        x.told(0, 0, 10, 999);
        Due.due("told at 999", x.value(0, 0), 10);
        x.set(3, 998);
        Due.due("not known at 998", x.value(0, 0), NONE);
    }

    private static void theSpanOfOne() {
        WarnLines x = new WarnLines();
        Due.group(x, 999);
        Due.group(x, 0, 999);
        Due.group(x, 7, 7, 7, 7, 7);
        Due.due("of one", x.of(0, 1, 0), 0);
        Due.due("of one, below", x.of(0, 1, 1), 1);
        Due.due("the greatest there is", x.of(1, 1, 0), 999);
        Due.due("of five alike", x.of(2, 1, 0), 0);
        x.told(1, 0, -1, 1);
        Due.due("of one that is left", x.of(1, 1, 0), 0);
        Due.due("its mean", x.of(1, 0, 0), 999);
    }

    private static void aBlankGroupIsLeftOut() {
        WarnLines x = new WarnLines();
        Due.group(x, 10);
        Due.group(x);
        Due.group(x, 20);
        Due.group(x, 500);
        Due.group(x, 30);
        x.told(3, 0, -1, 0);
        Due.write(x, 0, "r3");
        Due.write(x, 1, "a3");
        Due.due("three beside each other rise", x.warns(0, 4), 1);
        Due.due("they do not turn", x.warns(1, 4), 0);
        Due.due("the middle is of three", x.base(0, 0), 20);
        Due.due("no bits of it", x.leftOut(), 0);
        Due.due("blank ones", x.count(1), 2);
        for (int g : new int[] {1, 3}) {
            Due.due("asked by its number: of", x.of(g, 0, 0), Due.LONG_NOT);
            Due.due("asked by its number: zone", x.zone(g, 0), NOT);
            Due.due("asked by its number: warns", x.warns(0, g), NOT);
            Due.due("asked by its number: sum", x.sum(g, 1, 0), Due.LONG_NOT);
            Due.due("asked by its number: smoothed", x.smoothed(g), NOT);
            Due.due("asked by its number: value", x.value(g, 0), NONE);
        }
        x.set(7, 8);
        Due.due("smoothed over it", x.smoothed(4), 30000);
        x.told(3, 0, 15, 0);
        Due.due("known again, it stands between", x.warns(0, 4), 0);
        Due.due("and they turn", x.warns(1, 4), 1);
    }

    private static void blankOnesAtTheEnds() {
        WarnLines x = new WarnLines();
        Due.group(x);
        Due.group(x, 50);
        Due.group(x, 10, 10);
        Due.group(x);
        Due.write(x, 0, "z1/1>0");
        x.set(0, 2);
        Due.due("the first that warns", x.warned(0, 0), 1);
        Due.due("the first at which UP is more", x.over(0), 1);
        Due.due("it began at the first that is not blank", x.over(2), 1);
        Due.due("smoothed begins there", x.smoothed(1), 50000);
        Due.due("how many", x.warned(0, 1), 1);
        Due.due("two orders", x.warned(0, 2), 1000000);
    }

    private static void theBaseIs0To19AtFirst() {
        WarnLines x = new WarnLines();
        for (int g = 0; g < 20; g++) {
            Due.group(x, 100);
        }
        x.told(0, 0, 120, 0);
        x.told(19, 0, 140, 0);
        Due.due("both ends are in it", x.base(0, 0), 103);
        x.set(0, 1);
        Due.due("without the first, above", x.base(0, 0), 1940);
        Due.due("without the first, below", x.base(0, 1), 19);
        x.set(1, 18);
        Due.due("without the last, too", x.base(0, 0), 100);
        x.set(0, 0);
        Due.due("without the last, above", x.base(0, 0), 1920);
    }

    private static void theBaseHasBothItsEnds() {
        WarnLines x = Due.row(10, 20, 40, 80, 160);
        int[][] due = {{10, 15, 70, 75, 62}, {0, 20, 30, 140, 75}, {0, 0, 40, 60, 280}, {0, 0, 0, 80, 120},
            {0, 0, 0, 0, 160}};
        int[][] below = {{1, 1, 3, 2, 1}, {0, 1, 1, 3, 1}, {0, 0, 1, 1, 3}, {0, 0, 0, 1, 1}, {0, 0, 0, 0, 1}};
        for (int from = 0; from < 5; from++) {
            x.set(0, from);
            for (int to = 0; to < 5; to++) {
                x.set(1, to);
                if (from > to) {
                    Due.due("from " + from + " to " + to, x.base(0, 0), Due.LONG_NOT);
                } else {
                    Due.due("from " + from + " to " + to, x.base(0, 0), due[from][to]);
                    Due.due("from " + from + " to " + to + ", below", x.base(0, 1), below[from][to]);
                }
            }
        }
    }

    private static void nothingInIt(String why, WarnLines x) {
        Due.due(why + ": middle", x.base(0, 0), Due.LONG_NOT);
        Due.due(why + ": step", x.base(1, 1), Due.LONG_NOT);
        Due.due(why + ": leftOut", x.leftOut(), NOT);
        Due.due(why + ": over", x.over(0), NOT);
        for (int text = 0; text < 2; text++) {
            for (int what = 0; what < 3; what++) {
                Due.due(why + ": warned " + what, x.warned(text, what), NOT);
            }
            Due.due(why + ": blamed", x.blamed(text), NOT);
        }
        for (int g = 0; g < x.count(0); g++) {
            Due.due(why + ": zone", x.zone(g, 2), NOT);
            Due.due(why + ": warns", x.warns(0, g), NOT);
            Due.due(why + ": sum", x.sum(g, -1, 0), Due.LONG_NOT);
        }
        x.sheet(3, 0, 3);
        Due.due(why + ": write", x.write(3), NOT);
    }

    private static void theBaseHasNothing() {
        nothingInIt("no groups", new WarnLines());
        WarnLines blank = new WarnLines();
        blank.group();
        blank.group();
        nothingInIt("blank ones alone", blank);
        WarnLines late = new WarnLines();
        late.group();
        late.told(0, 0, 5, 9);
        late.set(3, 8);
        nothingInIt("nothing is known yet", late);
        Due.due("nothing is known yet: smoothed", late.smoothed(0), NOT);
        WarnLines turned = Due.row(5, 6);
        turned.set(0, 1);
        turned.set(1, 0);
        nothingInIt("from is one more than to", turned);
        Due.due("from is one more than to: smoothed", turned.smoothed(1), 5250);
        turned.set(1, 1);
        Due.due("from as much as to", turned.base(0, 0), 6);
        WarnLines behind = Due.row(5, 6);
        behind.set(0, 2);
        nothingInIt("behind all groups", behind);
        WarnLines between = Due.row(5, 6, 7);
        between.told(1, 0, -1, 0);
        between.set(0, 1);
        between.set(1, 1);
        nothingInIt("a blank one between others", between);
    }

    private static void reachIs58AtFirst() {
        WarnLines x = new WarnLines();
        Due.group(x, 0, 300);
        Due.due("58 by 300 of a span of 300", x.base(1, 0), 58);
        Due.due("below", x.base(1, 1), 1);
        x.set(2, 999);
        Due.due("the most", x.base(1, 0), 999);
        x.set(2, 1);
        Due.due("1", x.base(1, 0), 1);
        x.set(2, 0);
        Due.due("the least", x.base(1, 0), 0);
        Due.due("the least, below", x.base(1, 1), 1);
    }

    /** The base is the first two groups: the middle 100, and a step of so many tenths. */
    private static WarnLines around100(int tenths) {
        WarnLines x = new WarnLines();
        Due.group(x, 85, 115);
        Due.group(x, 85, 115);
        x.set(1, 1);
        x.set(2, tenths);
        return x;
    }

    private static void onALineIsNotBeyondIt() {
        for (int step : new int[] {1, 10, 33}) {
            WarnLines x = around100(10 * step);
            for (int line = 1; line <= 3; line++) {
                String which = "line " + line + " of steps of " + step;
                int on = Due.group(x, 100 + line * step);
                Due.due("on " + which, x.zone(on, 1), line - 1);
                Due.due("above on " + which, x.zone(on, 2), 4 + line - 1);
                int beyond = Due.group(x, 100 + line * step + 1);
                Due.due("beyond " + which, x.zone(beyond, 1), step == 1 ? Math.min(3, line) : line);
                int under = Due.group(x, 100 - line * step);
                Due.due("below on " + which, x.zone(under, 2), 4 - line);
                int farther = Due.group(x, 100 - line * step - 1);
                Due.due("below, beyond " + which, x.zone(farther, 2), 3 - line);
            }
            int far = Due.group(x, 999);
            Due.due("zone 3 is the farthest", x.zone(far, 1), 3);
            int farBelow = Due.group(x, 0);
            Due.due("zone 3 below", x.zone(farBelow, 2), 0);
        }
    }

    private static void justBeyondALineInFractions() {
        // Means of five pieces are a fifth apart: 100.4 is on the first line of steps of 0.4.
        WarnLines x = around100(4);
        int on = Due.group(x, 100, 100, 100, 101, 101);
        int under = Due.group(x, 100, 100, 100, 99, 99);
        Due.due("on the first line", x.zone(on, 2), 4);
        Due.due("below on the first line", x.zone(under, 2), 3);
        x.set(2, 3);
        Due.due("a tenth beyond it", x.zone(on, 2), 5);
        Due.due("below, a tenth beyond it", x.zone(under, 2), 2);
        x.set(2, 2);
        Due.due("on the second", x.zone(on, 1), 1);
        x.set(2, 1);
        Due.due("beyond the third", x.zone(on, 1), 3);
        // Three pieces: a mean a third above 100; the steps are thirtieths.
        WarnLines thirds = new WarnLines();
        Due.group(thirds, 95, 105);
        Due.group(thirds, 95, 105);
        thirds.set(1, 1);
        thirds.set(2, 10);
        int third = Due.group(thirds, 100, 100, 101);
        Due.due("a third is on the first line", thirds.zone(third, 1), 0);
        thirds.set(2, 9);
        Due.due("a third is beyond nine thirtieths", thirds.zone(third, 1), 1);
        thirds.set(2, 5);
        Due.due("on the second of sixths", thirds.zone(third, 1), 1);
        thirds.set(2, 4);
        Due.due("beyond the second of four thirtieths", thirds.zone(third, 1), 2);
    }

    private static WarnLines withSpan(int span, int... means) {
        WarnLines x = new WarnLines();
        for (int mean : means) {
            Due.group(x, mean - span / 2, mean + span / 2);
        }
        return x;
    }

    /** The step is 299 by 300, one is 1 off the middle. */
    private static void beyondALineByTheLeastPart() {
        for (int side = -1; side <= 1; side += 2) {
            WarnLines x = new WarnLines();
            Due.group(x, 100, 113);
            Due.group(x, 106 + side, 107 + side);
            x.set(1, 0);
            x.set(2, 23);
            Due.due("step, above", x.base(1, 0), 299);
            Due.due("step, below", x.base(1, 1), 300);
            Due.due("beyond the first line", x.zone(1, 1), 1);
            x.told(0, 1, 115, 0);
            x.told(0, 0, 98, 0);
            x.told(1, 0, 105 + side, 0);
            x.told(1, 1, 108 + side, 0);
            // 17 times 20 by 300 is 34 by 30; 15 times 20 by 300 is 1.
            x.set(2, 20);
            Due.due("within the first line", x.zone(1, 1), 0);
            x.told(0, 0, 99, 0);
            x.told(0, 1, 114, 0);
            Due.due("on the first line", x.zone(1, 1), 0);
            x.set(2, 10);
            Due.due("on the second line", x.zone(1, 1), 1);
            x.set(2, 9);
            Due.due("beyond the second line", x.zone(1, 1), 2);
        }
    }

    private static void leftOutIs(String why, WarnLines x, int reach, int bits) {
        x.set(2, reach);
        Due.due(why + ", reach " + reach, x.leftOut(), bits);
    }

    private static void leftOutAreAllBeyondTheThirdLine() {
        // The third line is a tenth of the reach off the middle, which is 110: 130 is 20 above it.
        WarnLines above = withSpan(10, 100, 100, 130);
        leftOutIs("above on the third line", above, 200, 0);
        leftOutIs("above beyond it", above, 199, 4);
        Due.due("the middle without it", above.base(0, 0), 100);
        Due.due("the others are as far as 10", above.zone(2, 1), 3);
        WarnLines below = withSpan(10, 130, 100, 130);
        leftOutIs("below on the third line", below, 200, 0);
        leftOutIs("below beyond it", below, 199, 2);
        Due.due("the middle without it", below.base(0, 0), 130);
        WarnLines both = withSpan(10, 100, 70, 100, 130, 100);
        leftOutIs("both sides on it", both, 300, 0);
        leftOutIs("both sides beyond it", both, 299, 10);
        both.set(1, 2);
        leftOutIs("above is not of the base", both, 199, 2);
        both.set(0, 1);
        leftOutIs("two of three would be left out: none is", both, 99, 0);
    }

    private static void twoAtLeastAreLeft() {
        WarnLines three = withSpan(10, 100, 100, 130);
        leftOutIs("three: two are left", three, 100, 4);
        leftOutIs("three: none would be left", three, 99, 0);
        Due.due("the middle of all three", three.base(0, 0), 110);
        WarnLines one = withSpan(10, 100, 110, 120);
        leftOutIs("three: one would be left", one, 99, 0);
        Due.due("the step of all three", one.base(1, 0), 33);
        WarnLines two = withSpan(10, 100, 120);
        leftOutIs("two: none would be left", two, 99, 0);
        WarnLines alone = withSpan(10, 100);
        leftOutIs("one alone is at the middle", alone, 0, 0);
        WarnLines four = withSpan(10, 100, 100, 150, 50);
        leftOutIs("four: two are left", four, 499, 12);
        leftOutIs("four: all are left", four, 500, 0);
        WarnLines noStep = Due.row(100, 100, 100, 100);
        leftOutIs("without a step, all at the middle", noStep, 58, 0);
        noStep.told(3, 0, 99, 0);
        Due.due("without a step, all beyond", noStep.leftOut(), 0);
    }

    private static void againAndAgain() {
        WarnLines x = withSpan(2, 100, 100, 100, 100, 100, 100);
        Due.group(x, 105, 115);
        Due.group(x, 130, 190);
        Due.group(x, 300, 700);
        // 500 alone is 482/9 off 1370/9; then 160 beyond 82/8; then 110 beyond 22/7; then all are alike.
        leftOutIs("three rounds", x, 100, 7 << 6);
        Due.due("the middle is of six", x.base(0, 0), 100);
        Due.due("the step is of six", x.base(1, 0), 2);
        Due.due("the step is of six, below", x.base(1, 1), 3);
        // The third line comes to 88/7 off the middle, and 110 is 60/7 off it.
        leftOutIs("two rounds: the third finds none", x, 400, 3 << 7);
        leftOutIs("no round finds one", x, 999, 0);
    }

    private static void againUntilTwoWouldNotBeLeft() {
        WarnLines x = withSpan(4, 100, 110, 120);
        Due.group(x, 500, 900);
        // At first 700 alone is beyond 206; without it 100 and 120 are beyond 8: one would be left.
        leftOutIs("the first round stands", x, 200, 8);
        Due.due("the middle", x.base(0, 0), 110);
        Due.due("the third line is behind both", x.zone(0, 2), 0);
        leftOutIs("on the third line", x, 250, 8);
    }

    private static void leftOutAtBothEndsOfTheBits() {
        WarnLines x = new WarnLines();
        Due.group(x, 199, 201);
        for (int g = 1; g < 19; g++) {
            Due.group(x, 99, 101);
        }
        Due.group(x, 9, 11);
        leftOutIs("group 0 and group 19", x, 500, 1 | 1 << 19);
        x.set(1, 18);
        Due.due("group 19 is not of the base", x.leftOut(), 1);
        x.set(0, 1);
        Due.due("neither is group 0", x.leftOut(), 0);
    }

    private static void fractionIs(String name, long above, long below, long wantAbove, long wantBelow) {
        Due.due(name + ", above", above, wantAbove);
        Due.due(name + ", below", below, wantBelow);
    }

    private static void fractionsInLowestTerms() {
        WarnLines x = new WarnLines();
        Due.group(x, 0, 0, 0, 0);
        fractionIs("a mean of 0", x.of(0, 0, 0), x.of(0, 0, 1), 0, 1);
        fractionIs("a span of 0", x.of(0, 1, 0), x.of(0, 1, 1), 0, 1);
        fractionIs("a middle of 0", x.base(0, 0), x.base(0, 1), 0, 1);
        fractionIs("a step of 0", x.base(1, 0), x.base(1, 1), 0, 1);
        fractionIs("a sum of 0", x.sum(0, -1, 0), x.sum(0, -1, 1), 0, 1);
        fractionIs("a chance of 0", x.soon(0, 9, 0, true, 0), x.soon(0, 9, 0, true, 1), 0, 1);
        x.set(9, 0);
        fractionIs("a cost of 0", x.cheaper(9, 0, 0), x.cheaper(9, 0, 1), 0, 1);
        Due.group(x, 999, 999, 999, 998, 998);
        fractionIs("fifths", x.of(1, 0, 0), x.of(1, 0, 1), 4993, 5);
        Due.group(x, 1, 1, 2, 2);
        fractionIs("two halves of four", x.of(2, 0, 0), x.of(2, 0, 1), 3, 2);
        Due.group(x, 1, 2, 2, 2);
        fractionIs("quarters", x.of(3, 0, 0), x.of(3, 0, 1), 7, 4);
        Due.group(x, 999, 999, 999, 999, 999);
        fractionIs("a whole number", x.of(4, 0, 0), x.of(4, 0, 1), 999, 1);
    }

    private static void aSideIsMoreOrLessJust() {
        WarnLines x = Due.row(10, 11);
        x.set(1, 1);
        int at = Due.group(x, 10, 11);
        int less = Due.group(x, 10, 10, 10, 11, 11);
        int more = Due.group(x, 10, 10, 11, 11, 11);
        Due.due("as much as the middle", x.zone(at, 0), 0);
        Due.due("a tenth less", x.zone(less, 0), 2);
        Due.due("a tenth more", x.zone(more, 0), 1);
        Due.due("without a step, less: zone", x.zone(less, 1), 3);
        Due.due("without a step, more: zone", x.zone(more, 1), 3);
        Due.due("as much: zone", x.zone(at, 1), 0);
        Due.due("as much: class", x.zone(at, 2), 4);
    }

    private static void sheetsAreLostAtFirst() {
        for (int s = 0; s < 4; s++) {
            int each = s;
            Whole.found("read of " + s, EdgesOfTermsTest::aGroupAlone, x -> x.read(each, 0, Whole.TIME), -11, 1);
            Whole.found("odds of " + s, EdgesOfTermsTest::aGroupAlone, x -> x.odds(each), -11, 1);
            Whole.found("lose of " + s, EdgesOfTermsTest::aGroupAlone, x -> x.lose(each), -11, 1);
            Whole.found("write of " + s, EdgesOfTermsTest::aGroupAlone, x -> x.write(each), -11, 1);
            for (int form = 0; form < 3; form++) {
                int of = form;
                Whole.found("lay of " + s, EdgesOfTermsTest::aGroupAlone, x -> x.lay(each, of, 0, 0), -11, 1);
                Whole.found("get of " + s, EdgesOfTermsTest::aGroupAlone, x -> x.get(each, of, 0),
                    Integer.MIN_VALUE, 1);
            }
            for (int t = 0; t < 4; t++) {
                int to = t;
                Whole.found("copy of " + s, EdgesOfTermsTest::aGroupAlone, x -> x.copy(each, 0, to, 0, 0), -11, 1);
            }
        }
    }

    private static WarnLines aGroupAlone() {
        WarnLines x = new WarnLines();
        x.group();
        x.told(0, 0, 5, Whole.TIME);
        return x;
    }

    private static void sheetsOfAllForms() {
        for (int s = 0; s < 4; s++) {
            for (int form = 0; form < 3; form++) {
                WarnLines x = new WarnLines();
                String which = "sheet " + s + " of form " + form;
                Due.due(which + ", 60 items", x.sheet(s, form, 60), 60);
                for (int i = 0; i < 60; i++) {
                    Due.due(which + ", item " + i + " at first", x.get(s, form, i), 0);
                    Due.due(which + ", item " + i, x.lay(s, form, i, i - 30), 1);
                }
                for (int i = 0; i < 60; i++) {
                    Due.due(which + ", item " + i, x.get(s, form, i), i - 30);
                }
                Due.due(which + ", made anew", x.sheet(s, form, 60), 60);
                for (int i = 0; i < 60; i++) {
                    Due.due(which + ", item " + i + " is 0 again", x.get(s, form, i), 0);
                }
                Due.due(which + ", no items", x.sheet(s, form, 0), 0);
                Due.due(which + ", none at 0", x.lay(s, form, 0, 1), -12);
                Due.due(which + ", it is not lost", x.lose(s), 0);
            }
        }
    }

    private static void findingsByTheirNumbers() {
        Due.due("0 before any", new WarnLines().count(8), 0);
        Whole.found("NULL", x -> x.lose(3), 1);
        Whole.found("INDEX", x -> x.lay(0, 0, 8, 1), 2);
        Whole.found("CAST", x -> x.lay(0, 1, 0, 1), 3);
        Whole.found("STORE", x -> x.copy(0, 0, 1, 0, 1), 4);
        Whole.found("SIZE", Whole::afterNull, x -> x.sheet(0, 0, -1), -15, 5);
        Whole.found("SIZE again", Whole::make, x -> x.sheet(0, 0, -1), -15, 5);
        WarnLines x = Whole.make();
        x.lose(3);
        x.copy(0, 0, 1, 0, 1);
        Due.due("the latest counts", x.count(8), 4);
        x.told(9, 9, 9, 9);
        x.get(0, 0, 0);
        Due.due("other calls leave it", x.count(8), 4);
    }

    private static void longRefusals() {
        WarnLines x = new WarnLines();
        Due.due("BAD as a long", x.of(0, 0, 0), -9223372036854775806L);
        Due.due("NOT as a long", x.base(0, 0), -9223372036854775805L);
    }

    private static void smoothedIsCutDownward() {
        WarnLines x = new WarnLines();
        Due.group(x, 0, 0, 1);
        Due.due("a third, cut", x.smoothed(0), 333);
        x.told(0, 0, 1, 0);
        Due.due("two thirds, cut", x.smoothed(0), 666);
        Due.group(x, 0);
        Due.due("666 less 166.5 is cut to 499", x.smoothed(1), 499);
        WarnLines most = new WarnLines();
        Due.group(most, 999, 999);
        Due.group(most, 0);
        Due.due("the most", most.smoothed(0), 999000);
        most.set(7, 8);
        Due.due("w 8: the mean alone", most.smoothed(1), 0);
        most.set(7, 1);
        Due.due("w 1: an eighth of the way", most.smoothed(1), 874125);
        Due.due("no such group", most.smoothed(2), BAD);
        Due.due("no more than 20", Whole.twentyGroups().group(), FULL);
    }
}

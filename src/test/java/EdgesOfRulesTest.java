/** The boundaries that promises 11 to 15 and the terms of rules name: type, wipe, fault, warns, warned. */
public final class EdgesOfRulesTest {
    private static final int NONE = WarnLines.NONE, BAD = WarnLines.BAD, NOT = WarnLines.NOT, FULL = WarnLines.FULL;

    public static void main(String[] args) {
        typeBounds();
        typeUpToFifty();
        wipeBounds();
        wipeLeavesNoRules();
        faultBounds();
        faultOfTheEmptyText();
        faultOfEachByte();
        faultOfFiguresOfN();
        faultOfTextsThatAreNotEnded();
        faultOfANinthRule();
        faultInFiftyBytes();
        theLastNAsManyAsThereAre();
        theLastNAndNoMore();
        kAtLeastOnOneSide();
        thatZoneOrAFartherOne();
        aGroupOnNoSideCountsOnNone();
        theLastKRiseOrFall();
        alikeOnesDoNotRise();
        theLastKGoUpAndDown();
        noneIsAlike();
        warnsBounds();
        warnsRefusals();
        rulesAsBits();
        warnedBounds();
        warnedRefusals();
        warnedOfNone();
        chanceOfSevenAtMost();
        chanceWithBlankOnes();
        chanceIsCut();
        chanceOfNone();
        Due.close();
    }

    private static void typeBounds() {
        Whole.bounds("type: text", 0, 1, BAD, (x, n) -> x.type(n, 'r'));
        Whole.bounds("type: byte", 0, 255, BAD, (x, n) -> x.type(0, n));
    }

    private static void typeUpToFifty() {
        for (int text = 0; text < 2; text++) {
            WarnLines x = new WarnLines();
            for (int n = 1; n <= 50; n++) {
                Due.due("byte " + n + " of text " + text, x.type(text, n % 2 == 0 ? 255 : 0), n);
            }
            Due.due("byte 51 of text " + text, x.type(text, 0), FULL);
            Due.due("the other one has room", x.type(1 - text, 0), 1);
            Due.due("bytes", x.count(5 + text), 50);
            Due.due("all are wiped", x.wipe(text), 50);
            Due.due("room again", x.type(text, 'r'), 1);
        }
        Due.due("fifty", Whole.fiftyBytes().count(5), 50);
        Whole.refused("byte 51", Whole::fiftyBytes, x -> x.type(0, 'r'), FULL);
        Whole.refused("byte 51, a ;", Whole::fiftyBytes, x -> x.type(0, ';'), FULL);
        Whole.refused("BAD goes ahead, 256", Whole::fiftyBytes, x -> x.type(0, 256), BAD);
        Whole.refused("BAD goes ahead, -1", Whole::fiftyBytes, x -> x.type(0, -1), BAD);
    }

    private static void wipeBounds() {
        Whole.bounds("wipe: text", 0, 1, BAD, WarnLines::wipe);
        WarnLines x = Whole.make();
        Due.due("thirteen bytes", x.wipe(0), 13);
        Due.due("none", x.wipe(0), 0);
        Due.due("the other stands", x.wipe(1), 13);
        WarnLines fault = Whole.withFaults();
        fault.wipe(1);
        Due.due("no fault is left", fault.fault(1), NONE);
        Due.due("no rules are left", fault.warns(1, 0), 0);
        Due.due("the other's fault stands", fault.fault(0), 14);
    }

    /** Of each kind of rule, and then again with fewer, shorter or other ones in its place. */
    private static void wipeLeavesNoRules() {
        String[] texts = {"r2", "a3", "z1/1>0", "r2;r2;r2", "a3;a3;a3", "z1/5>0;z1/5>0;z1/5>0", "r2;a3;z1/1>0"};
        for (String was : texts) {
            WarnLines x = beside100(101, 103, 102, 104, 105, 106);
            Due.write(x, 0, was);
            Due.due("it warns by " + was, x.warned(0, 1) > 0 ? 1 : 0, 1);
            x.wipe(0);
            for (int g = 0; g < 7; g++) {
                Due.due("wiped of " + was + ", at " + g, x.warns(0, g), 0);
            }
            Due.due("first, wiped of " + was, x.warned(0, 0), NONE);
            Due.due("how many, wiped of " + was, x.warned(0, 1), 0);
            Due.due("soon, wiped of " + was, x.soon(0, 1, 0, true, 0), 0);
            for (String then : texts) {
                WarnLines fresh = beside100(101, 103, 102, 104, 105, 106);
                Due.write(fresh, 0, then);
                Due.write(x, 0, then);
                for (int g = 0; g < 7; g++) {
                    Due.due(then + " behind " + was + ", at " + g, x.warns(0, g), fresh.warns(0, g));
                }
                Due.due(then + " behind " + was + ", how many", x.warned(0, 1), fresh.warned(0, 1));
            }
        }
        WarnLines x = beside100(101, 100, 100, 100, 100, 100);
        warnsAre(x, "z1/5>0;z1/5>0", 3, 3, 3, 3, 3, 0);
        warnsAre(x, "z1/5>0;z1/3>0", 3, 3, 3, 1, 1, 0);
        warnsAre(x, "z1/3>0;z1/5>0", 3, 3, 3, 2, 2, 0);
        warnsAre(x, "z1/1>0;z1/5>0", 3, 2, 2, 2, 2, 0);
    }

    private static void faultBounds() {
        Whole.bounds("fault: text", 0, 1, BAD, WarnLines::fault);
    }

    private static int faultOf(String text) {
        WarnLines x = new WarnLines();
        for (int i = 0; i < text.length(); i++) {
            x.type(1, text.charAt(i));
        }
        return x.fault(1);
    }

    private static void faultIs(String text, int place) {
        Due.due("fault of '" + text + "'", faultOf(text), place);
    }

    private static void faultOfTheEmptyText() {
        WarnLines x = Due.row(5);
        Due.due("it is well", x.fault(0), NONE);
        Due.due("no rule warns", x.warns(0, 0), 0);
        Due.due("no first", x.warned(0, 0), NONE);
        Due.due("none", x.warned(0, 1), 0);
        Due.due("soon: never", x.soon(0, 9, 7, false, 0), 0);
        Due.due("nothing is blamed", x.blamed(0), NONE);
    }

    /** Each byte there is, behind what is well so far. */
    private static void faultOfEachByte() {
        eachBehind("", "zra", false);
        eachBehind("z", "12345", false);
        eachBehind("z1", "/", false);
        eachBehind("z1/", "12345", false);
        eachBehind("z1/1", ">", false);
        eachBehind("z1/1>", "0123", true);
        eachBehind("z1/1>0", ";", false);
        eachBehind("r", "23456789", true);
        eachBehind("r2", ";", false);
        eachBehind("a", "3456789", true);
        eachBehind("a3", ";", false);
        eachBehind("r2;", "zra", false);
        eachBehind("a3;z2", "/", false);
    }

    private static void eachBehind(String ahead, String well, boolean ended) {
        for (int b = 0; b < 256; b++) {
            int place = well.indexOf(b) < 0 ? ahead.length() : ended ? NONE : ahead.length() + 1;
            Due.due("fault of '" + ahead + "' and byte " + b, faultOf(ahead + (char) b), place);
        }
    }

    private static void faultOfFiguresOfN() {
        for (int k = 1; k <= 5; k++) {
            for (int n = 0; n <= 9; n++) {
                faultIs("z" + k + "/" + n + ">1", n >= k && n <= 5 ? NONE : 3);
                faultIs("r3;z" + k + "/" + n + ">1;a4", n >= k && n <= 5 ? NONE : 6);
            }
        }
        for (int k = 0; k <= 9; k++) {
            faultIs("r" + k + ";a9", k >= 2 ? NONE : 1);
            faultIs("a" + k + ";r9", k >= 3 ? NONE : 1);
            faultIs("z5/5>" + k + ";r9", k <= 3 ? NONE : 5);
        }
    }

    private static void faultOfTextsThatAreNotEnded() {
        String whole = "z2/3>1;r4;a5";
        for (int length = 0; length <= whole.length(); length++) {
            boolean ended = length == 0 || length == 6 || length == 9 || length == 12;
            faultIs(whole.substring(0, length), ended ? NONE : length);
        }
        faultIs("r2;", 3);
        faultIs("r2;;", 3);
        faultIs(";", 0);
        faultIs("r23", 2);
        faultIs("r2 ;", 2);
    }

    private static void faultOfANinthRule() {
        String eight = "r2;a3;r4;a5;r6;a7;r8;a9";
        faultIs(eight.substring(0, 20), NONE);
        faultIs(eight.substring(0, 21), 21);
        faultIs(eight, NONE);
        faultIs(eight + ";", 24);
        faultIs(eight + ";r", 24);
        faultIs(eight + ";r2", 24);
        faultIs(eight + ";z1/1>0", 24);
        faultIs(eight + ";;", 24);
        faultIs(eight + "x", 23);
        faultIs("z1/1>0;r2;r2;r2;r2;r2;r2;r1", 26);
        faultIs("z1/1>0;r2;r2;r2;r2;r2;r2;r2;r1", 28);
        faultIs("z1/1>0;z1/1>0;z1/1>0;z1/1>0;z1/1>0;z1/1>0;r2;r2", NONE);
        WarnLines x = Due.row(1, 2);
        Due.write(x, 0, eight);
        Due.due("eight rules warn", x.warns(0, 1), 1);
        x.type(0, ';');
        Due.due("nine do not", x.warns(0, 1), NOT);
    }

    private static void faultInFiftyBytes() {
        String seven = "z1/1>0;z1/1>0;z1/1>0;z1/1>0;z1/1>0;z1/1>0;z1/1>0";
        faultIs(seven, NONE);
        faultIs(seven + ";", 49);
        faultIs(seven + ";r", 50);
        faultIs(seven + ";;", 49);
        faultIs(seven + "xx", 48);
        WarnLines x = Due.row(1, 2);
        Due.write(x, 0, seven + ";r");
        Due.due("the eighth has no room to end", x.type(0, '2'), FULL);
        Due.due("the fault stands", x.fault(0), 50);
    }

    /** The base is a group at 100: the middle. The others have no step, so all beside it are in zone 3. */
    private static WarnLines beside100(int... means) {
        WarnLines x = Due.row(means);
        Due.group(x, 100);
        x.set(0, means.length);
        return x;
    }

    private static void warnsAre(WarnLines x, String rules, int... bits) {
        Due.write(x, 0, rules);
        for (int g = 0; g < bits.length; g++) {
            Due.due(rules + " at " + g, x.warns(0, g), bits[g]);
        }
    }

    private static void theLastNAsManyAsThereAre() {
        WarnLines x = beside100(101, 101, 101, 101, 101);
        for (int n = 1; n <= 5; n++) {
            for (int k = 1; k <= n; k++) {
                int[] due = new int[5];
                for (int g = 0; g < 5; g++) {
                    due[g] = g + 1 >= k ? 1 : 0;
                }
                warnsAre(x, "z" + k + "/" + n + ">3", due);
            }
        }
    }

    private static void theLastNAndNoMore() {
        WarnLines x = beside100(100, 101, 100, 100, 100, 100, 100, 100);
        for (int n = 1; n <= 5; n++) {
            int[] due = new int[8];
            for (int g = 0; g < 8; g++) {
                due[g] = g >= 1 && g < 1 + n ? 1 : 0;
            }
            warnsAre(x, "z1/" + n + ">3", due);
        }
        warnsAre(x, "z1/1>3;z1/2>3;z1/3>3;z1/4>3;z1/5>3", 0, 31, 30, 28, 24, 16, 0, 0);
        warnsAre(x, "z1/5>3;z1/4>3;z1/3>3;z1/2>3;z1/1>3", 0, 31, 15, 7, 3, 1, 0, 0);
        WarnLines under = beside100(100, 99, 100, 100, 100, 100, 100, 100);
        warnsAre(under, "z1/1>3;z1/2>3;z1/3>3;z1/4>3;z1/5>3", 0, 31, 30, 28, 24, 16, 0, 0);
        WarnLines ends = beside100(99, 100, 100, 100, 99, 100);
        warnsAre(ends, "z2/5>0", 0, 0, 0, 0, 1, 0);
        warnsAre(ends, "z2/4>0", 0, 0, 0, 0, 0, 0);
        WarnLines blank = beside100(99, 100, 500, 100, 100, 99);
        warnsAre(blank, "z2/5>0", 0, 0, 0, 0, 0, 0);
        blank.told(2, 0, -1, 0);
        warnsAre(blank, "z2/5>0", 0, 0, NOT, 0, 0, 1);
    }

    private static void kAtLeastOnOneSide() {
        WarnLines x = beside100(101, 99, 101, 99, 101);
        warnsAre(x, "z3/5>0", 0, 0, 0, 0, 1);
        warnsAre(x, "z4/5>0", 0, 0, 0, 0, 0);
        warnsAre(x, "z2/3>0", 0, 0, 1, 1, 1);
        warnsAre(x, "z2/2>0", 0, 0, 0, 0, 0);
        WarnLines five = beside100(99, 99, 99, 99, 99, 101);
        warnsAre(five, "z5/5>3", 0, 0, 0, 0, 1, 0);
        warnsAre(five, "z4/5>3", 0, 0, 0, 1, 1, 1);
    }

    private static void thatZoneOrAFartherOne() {
        // The base has the middle 100 and steps of 10.
        WarnLines x = new WarnLines();
        int[] far = {1, 10, 11, 20, 21, 30, 31, 899};
        int[] zones = {0, 0, 1, 1, 2, 2, 3, 3};
        Due.group(x, 85, 115);
        x.set(1, 0);
        x.set(2, 100);
        for (int i = 0; i < 8; i++) {
            Due.group(x, 100 + far[i]);
            Due.group(x, Math.max(0, 100 - far[i]));
        }
        for (int zone = 0; zone <= 3; zone++) {
            Due.write(x, 0, "z1/1>" + zone);
            for (int i = 0; i < 8; i++) {
                int due = zones[i] >= zone ? 1 : 0;
                Due.due(far[i] + " above, zone " + zone, x.warns(0, 1 + 2 * i), due);
                Due.due(far[i] + " below, zone " + zone, x.warns(0, 2 + 2 * i), due);
            }
        }
    }

    private static void aGroupOnNoSideCountsOnNone() {
        WarnLines x = beside100(100, 100, 101, 100, 99);
        warnsAre(x, "z1/1>0", 0, 0, 1, 0, 1);
        warnsAre(x, "z2/5>0", 0, 0, 0, 0, 0);
    }

    private static void theLastKRiseOrFall() {
        int[] rising = {1, 2, 3, 4, 5, 6, 7, 8, 9, 10};
        int[] falling = {10, 9, 8, 7, 6, 5, 4, 3, 2, 1};
        for (int k = 2; k <= 9; k++) {
            int[] due = new int[10];
            for (int g = 0; g < 10; g++) {
                due[g] = g + 1 >= k ? 1 : 0;
            }
            warnsAre(Due.row(rising), "r" + k, due);
            warnsAre(Due.row(falling), "r" + k, due);
        }
        warnsAre(Due.row(1, 2, 3, 2, 1, 2), "r3", 0, 0, 1, 0, 1, 0);
        warnsAre(Due.row(1), "r2", 0);
        WarnLines least = new WarnLines();
        Due.group(least, 10, 10, 10, 10, 11);
        Due.group(least, 10, 10, 10, 11);
        Due.group(least, 10, 10, 11);
        warnsAre(least, "r3", 0, 0, 1);
    }

    private static void alikeOnesDoNotRise() {
        warnsAre(Due.row(1, 2, 2, 3, 4), "r3;r2", 0, 2, 0, 2, 3);
        warnsAre(Due.row(4, 3, 3, 2, 1), "r3;r2", 0, 2, 0, 2, 3);
        WarnLines x = new WarnLines();
        Due.group(x, 1, 2);
        Due.group(x, 1, 2, 1, 2);
        Due.group(x, 1, 1, 2, 2);
        warnsAre(x, "r2", 0, 0, 0);
    }

    private static void theLastKGoUpAndDown() {
        int[] up = {1, 2, 1, 2, 1, 2, 1, 2, 1, 2};
        int[] down = {2, 1, 3, 2, 4, 3, 5, 4, 6, 5};
        for (int k = 3; k <= 9; k++) {
            int[] due = new int[10];
            for (int g = 0; g < 10; g++) {
                due[g] = g + 1 >= k ? 1 : 0;
            }
            warnsAre(Due.row(up), "a" + k, due);
            warnsAre(Due.row(down), "a" + k, due);
        }
        warnsAre(Due.row(1, 2), "a3", 0, 0);
        warnsAre(Due.row(1, 3, 2, 1, 2, 1), "a3;a4", 0, 0, 1, 0, 1, 3);
    }

    private static void noneIsAlike() {
        warnsAre(Due.row(1, 2, 2, 1, 2, 1), "a3;a4", 0, 0, 0, 0, 1, 3);
        warnsAre(Due.row(1, 1, 2, 1), "a3;a4", 0, 0, 0, 1);
        warnsAre(Due.row(1, 2, 1, 1), "a3;a4", 0, 0, 1, 0);
    }

    private static void warnsBounds() {
        Whole.bounds("warns: text", 0, 1, BAD, (x, n) -> x.warns(n, 0));
        Whole.bounds("warns: group", 0, 4, BAD, (x, n) -> x.warns(0, n));
    }

    private static void warnsRefusals() {
        Whole.refused("a fault of text 0", Whole::withFaults, x -> x.warns(0, 0), NOT);
        Whole.refused("a fault of text 1", Whole::withFaults, x -> x.warns(1, 0), NOT);
        Whole.refused("a blank one", x -> x.warns(0, 2), NOT);
        Whole.refused("no middle", Whole::noMiddle, x -> x.warns(0, 0), NOT);
        Whole.refused("BAD goes ahead of a fault", Whole::withFaults, x -> x.warns(0, 5), BAD);
        Whole.refused("BAD goes ahead of blank", x -> x.warns(2, 2), BAD);
        Whole.refused("BAD goes ahead of no middle", Whole::noMiddle, x -> x.warns(0, -1), BAD);
        WarnLines x = Whole.make();
        x.type(0, ';');
        Due.due("a fault of the other text is none", x.warns(1, 0) >= 0 ? 1 : 0, 1);
    }

    private static void rulesAsBits() {
        WarnLines x = beside100(101, 102, 103);
        warnsAre(x, "r3;z1/1>3;r3;z2/2>3;r3;z3/3>3;r3;r2", 2, 138, 255);
        warnsAre(x, "r9;r9;r9;r9;r9;r9;r9;z1/1>0", 128, 128, 128, 0);
        warnsAre(x, "z1/1>0;z1/1>0;z1/1>0;z1/1>0;z1/1>0;z1/1>0;r2;r2", 63, 255, 255, 192);
        warnsAre(x, "z1/1>0", 1, 1, 1, 0);
    }

    private static void warnedBounds() {
        Whole.bounds("warned: text", 0, 1, BAD, (x, n) -> x.warned(n, 1));
        Whole.bounds("warned: what", 0, 2, BAD, (x, n) -> x.warned(0, n));
    }

    private static WarnLines eight() {
        WarnLines x = Whole.make();
        for (int g = 0; g < 4; g++) {
            Due.group(x);
            x.told(5 + g, 0, 10 + g, Whole.TIME);
        }
        return x;
    }

    private static WarnLines eightWithFaults() {
        WarnLines x = eight();
        x.type(0, 'x');
        return x;
    }

    private static WarnLines eightWithNoMiddle() {
        WarnLines x = eight();
        x.set(0, 19);
        return x;
    }

    private static void warnedRefusals() {
        for (int what = 0; what < 3; what++) {
            int it = what;
            Whole.refused("a fault, " + it, Whole::withFaults, x -> x.warned(0, it), NOT);
            Whole.refused("no middle, " + it, Whole::noMiddle, x -> x.warned(0, it), NOT);
            Whole.refused("NOT goes ahead of FULL: a fault, " + it, EdgesOfRulesTest::eightWithFaults,
                x -> x.warned(0, it), NOT);
            Whole.refused("NOT goes ahead of FULL: no middle, " + it, EdgesOfRulesTest::eightWithNoMiddle,
                x -> x.warned(0, it), NOT);
        }
        Whole.refused("BAD goes ahead of a fault", Whole::withFaults, x -> x.warned(0, 3), BAD);
        Whole.refused("BAD goes ahead of no middle", Whole::noMiddle, x -> x.warned(2, 0), BAD);
        Whole.refused("BAD goes ahead of FULL", EdgesOfRulesTest::eight, x -> x.warned(-1, 2), BAD);
        Whole.refused("eight that are not blank", EdgesOfRulesTest::eight, x -> x.warned(0, 2), FULL);
        Due.due("FULL is of the chance alone: first", eight().warned(0, 0) >= 0 ? 1 : 0, 1);
        Due.due("FULL is of the chance alone: how many", eight().warned(0, 1) > 0 ? 1 : 0, 1);
    }

    private static void warnedOfNone() {
        WarnLines x = Due.row(10, 11, 12);
        Due.write(x, 0, "r4");
        Due.due("no first", x.warned(0, 0), NONE);
        Due.due("none", x.warned(0, 1), 0);
        Due.write(x, 0, "r3");
        Due.due("the last one is the first", x.warned(0, 0), 2);
        Due.due("one", x.warned(0, 1), 1);
        Due.write(x, 0, "z1/1>0");
        x.set(0, 1);
        x.set(1, 1);
        Due.due("group 0 is the first", x.warned(0, 0), 0);
        Due.due("two", x.warned(0, 1), 2);
        WarnLines run = Due.row(1, 2, 3, 4, 5, 6, 5, 6, 5, 6);
        Due.write(run, 0, "r2");
        Due.due("all but the first", run.warned(0, 1), 9);
        Due.write(run, 0, "r3");
        Due.due("the third to the sixth", run.warned(0, 1), 4);
        Due.write(run, 0, "a3");
        Due.due("the seventh and all behind it", run.warned(0, 1), 4);
        Due.due("the first of them", run.warned(0, 0), 6);
        WarnLines twenty = Whole.twentyGroups();
        twenty.set(1, 0);
        Due.write(twenty, 0, "z1/1>0;z1/5>0");
        Due.due("all but the base's one", twenty.warned(0, 1), 19);
    }

    private static void chanceOfSevenAtMost() {
        int orders = 1;
        int[] means = {1, 2, 3, 4, 5, 6, 7, 8};
        for (int many = 1; many <= 7; many++) {
            orders *= many;
            WarnLines x = Due.row(java.util.Arrays.copyOf(means, many));
            Due.write(x, 0, "r" + Math.max(2, many));
            Due.due("rise or fall of " + many, x.warned(0, 2), many == 1 ? 1000000 : 2000000 / orders);
        }
        WarnLines eight = Due.row(means);
        Due.write(eight, 0, "r8");
        Due.due("of eight", eight.warned(0, 2), FULL);
        Due.due("of twenty", Whole.twentyGroups().warned(0, 2), FULL);
    }

    private static void chanceWithBlankOnes() {
        WarnLines x = Due.row(1, 2, 3, 4, 5, 6, 7, 8);
        Due.write(x, 0, "r7");
        Due.due("eight", x.warned(0, 2), FULL);
        x.told(3, 0, -1, 0);
        Due.due("one of them is blank", x.warned(0, 2), 396);
        x.told(3, 0, 9, 0);
        Due.due("eight again", x.warned(0, 2), FULL);
        WarnLines late = Due.row(1, 2, 3, 4, 5, 6, 7);
        late.group();
        late.told(7, 0, 8, 5);
        late.set(3, 4);
        Due.write(late, 0, "r7");
        Due.due("the eighth is not known yet", late.warned(0, 2), 396);
        late.set(3, 5);
        Due.due("it is known", late.warned(0, 2), FULL);
    }

    private static void chanceIsCut() {
        WarnLines three = Due.row(1, 2, 3);
        Due.write(three, 0, "r3");
        Due.due("a third", three.warned(0, 2), 333333);
        WarnLines x = Due.row(4, 5, 6);
        Due.write(x, 0, "a3");
        x.told(1, 0, 7, 0);
        Due.due("two thirds", x.warned(0, 2), 666666);
        WarnLines far = beside100(100, 100, 101, 100, 100, 100);
        Due.write(far, 0, "z1/2>3");
        Due.due("the far one and the one behind it", far.warned(0, 1), 2);
        Due.due("six of seven", far.warned(0, 2), 857142);
        // Falling, with the middle's own group last: it warns at five, six and seven in this order alone.
        WarnLines falling = Due.row(7, 6, 5, 4, 3, 2, 1);
        falling.set(0, 6);
        Due.write(falling, 0, "z5/5>0;r7");
        Due.due("three warn", falling.warned(0, 1), 3);
        Due.due("one of 5040 orders", falling.warned(0, 2), 198);
    }

    private static void chanceOfNone() {
        WarnLines x = Due.row(5, 5, 5, 5, 5, 5, 5);
        Due.write(x, 0, "r2;a3");
        Due.due("none warns: as many or more do in all", x.warned(0, 2), 1000000);
        Due.due("no rules", x.warned(1, 2), 1000000);
        Due.due("one group alone", Due.row(5).warned(0, 2), 1000000);
        Due.due("all blank have no middle", aBlankGroup().warned(0, 2), NOT);
    }

    private static WarnLines aBlankGroup() {
        WarnLines x = new WarnLines();
        x.group();
        return x;
    }
}

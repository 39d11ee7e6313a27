/** Promises 11 to 15: type, wipe, fault, warns, warned. */
public final class RulesTest {
    private static final int NONE = WarnLines.NONE, BAD = WarnLines.BAD, NOT = WarnLines.NOT, FULL = WarnLines.FULL;

    public static void main(String[] args) {
        type();
        wipe();
        fault();
        warnsRefusals();
        warnsByZones();
        warnsByZonesOnBothSides();
        warnsByRuns();
        warnsByTurns();
        warnsByEight();
        warnsByTheTextAsItIs();
        blankOnesAreLeftOut();
        warned();
        warnedRefusals();
        chances();
        Due.close();
    }

    private static void type() {
        WarnLines x = new WarnLines();
        Due.due("text -1", x.type(-1, 0), BAD);
        Due.due("text 2", x.type(2, 0), BAD);
        Due.due("byte -1", x.type(0, -1), BAD);
        Due.due("byte 256", x.type(0, 256), BAD);
        Due.due("byte 0", x.type(0, 0), 1);
        Due.due("byte 255", x.type(0, 255), 2);
        for (int i = 3; i <= 50; i++) {
            Due.due("byte " + i, x.type(0, ';'), i);
        }
        Due.due("byte 51", x.type(0, ';'), FULL);
        Due.due("byte 51, wrong too", x.type(0, 256), BAD);
        Due.due("the other text has room", x.type(1, 'r'), 1);
        Due.due("bytes of text 0", x.count(5), 50);
        Due.due("bytes of text 1", x.count(6), 1);
    }

    private static void wipe() {
        WarnLines x = new WarnLines();
        Due.due("text -1", x.wipe(-1), BAD);
        Due.due("text 2", x.wipe(2), BAD);
        Due.due("empty", x.wipe(0), 0);
        Due.write(x, 0, "r2;a3");
        Due.write(x, 1, "x");
        Due.due("five bytes", x.wipe(0), 5);
        Due.due("none are left", x.count(5), 0);
        Due.due("no fault", x.fault(0), NONE);
        Due.due("the other stands", x.count(6), 1);
        Due.due("its fault too", x.fault(1), 0);
    }

    private static void faultOf(String text, int place) {
        WarnLines x = new WarnLines();
        Due.write(x, 1, text);
        Due.due("fault of '" + text + "'", x.fault(1), place);
        Due.due("fault of the empty text beside '" + text + "'", x.fault(0), NONE);
    }

    private static void fault() {
        Due.due("text 2", new WarnLines().fault(2), BAD);
        Due.due("text -1", new WarnLines().fault(-1), BAD);
        String[] well = {"", "z1/1>0", "z5/5>3", "z1/5>0", "z3/3>2", "r2", "r9", "a3", "a9", "r2;a3;z2/3>1",
            "r2;r2;r2;r2;r2;r2;r2;r2"};
        for (String text : well) {
            faultOf(text, NONE);
        }
        String[] notEnded = {"z", "z1", "z1/", "z1/2", "z1/2>", "r", "a", "r2;", "r2;z", "r2;r2;r2;r2;r2;r2;r2;r2;"};
        for (String text : notEnded) {
            faultOf(text, text.length());
        }
        faultOf("z0/1>0", 1);
        faultOf("z6/6>0", 1);
        faultOf("z2/1>0", 3);
        faultOf("z2/6>0", 3);
        faultOf("z2/0>0", 3);
        faultOf("z1-2>0", 2);
        faultOf("z1/2<0", 4);
        faultOf("z1/2>4", 5);
        faultOf("z1/2>-", 5);
        faultOf("r1", 1);
        faultOf("r0", 1);
        faultOf("a2", 1);
        faultOf("a:", 1);
        faultOf("r10", 1);
        faultOf("r22", 2);
        faultOf("a3 ", 2);
        faultOf("z1/1>00", 6);
        faultOf(";", 0);
        faultOf(" r2", 0);
        faultOf("R2", 0);
        faultOf("r2;;", 3);
        faultOf("r2;b3", 3);
        faultOf("r2;a", 4);
        faultOf("r2;r2;r2;r2;r2;r2;r2;r2;r2", 24);
        faultOf("r2;r2;r2;r2;r2;r2;r2;r2;x", 24);
        faultOf("r2;r2;r2;r2;r2;r2;r2;r2,", 23);
        faultOf("\u00fa1/1>0", 0);
    }

    private static void warnsRefusals() {
        WarnLines x = new WarnLines();
        Due.due("no group", x.warns(0, 0), BAD);
        x.group();
        Due.due("text 2", x.warns(2, 0), BAD);
        Due.due("text -1", x.warns(-1, 0), BAD);
        Due.due("group 1", x.warns(0, 1), BAD);
        Due.due("group -1", x.warns(0, -1), BAD);
        Due.due("blank", x.warns(0, 0), NOT);
        Due.group(x, 5);
        Due.due("no rules", x.warns(0, 1), 0);
        Due.due("blank beside one that is not", x.warns(0, 0), NOT);
        Due.write(x, 0, "r2;");
        Due.due("a fault", x.warns(0, 1), NOT);
        Due.due("the other text has none", x.warns(1, 1), 0);
        Due.due("BAD goes ahead of a fault", x.warns(0, 2), BAD);
        Due.write(x, 0, "r2");
        x.set(1, 0);
        Due.due("no middle", x.warns(0, 1), NOT);
    }

    /** Base of the first two: the middle 100, steps of 10. */
    private static WarnLines around100(int... means) {
        WarnLines x = new WarnLines();
        Due.group(x, 85, 115);
        Due.group(x, 85, 115);
        x.set(1, 1);
        x.set(2, 100);
        for (int mean : means) {
            Due.group(x, mean);
        }
        return x;
    }

    private static void warnsBits(WarnLines x, String rules, int from, int... bits) {
        Due.write(x, 0, rules);
        for (int i = 0; i < bits.length; i++) {
            Due.due(rules + " at " + (from + i), x.warns(0, from + i), bits[i]);
        }
    }

    private static void warnsByZones() {
        WarnLines x = around100(125, 100, 125, 105, 131, 100, 100, 70, 69, 100, 69);
        warnsBits(x, "z1/1>3", 2, 0, 0, 0, 0, 1, 0, 0, 0, 1, 0, 1);
        warnsBits(x, "z1/1>2", 2, 1, 0, 1, 0, 1, 0, 0, 1, 1, 0, 1);
        warnsBits(x, "z2/3>2", 2, 0, 0, 1, 0, 1, 0, 0, 0, 1, 1, 1);
        warnsBits(x, "z2/2>2", 2, 0, 0, 0, 0, 0, 0, 0, 0, 1, 0, 0);
        warnsBits(x, "z4/5>0", 2, 0, 0, 0, 0, 1, 0, 0, 0, 0, 0, 0);
        warnsBits(x, "z1/2>3;z3/5>2", 2, 0, 0, 0, 0, 3, 1, 0, 0, 1, 1, 3);
        WarnLines few = Due.row(50, 10, 12, 60);
        few.set(0, 1);
        few.set(1, 2);
        warnsBits(few, "z1/5>0;z2/5>0;z3/5>0", 0, 1, 1, 3, 7);
    }

    private static void warnsByZonesOnBothSides() {
        // Two beyond on the one side and two on the other are not four on one.
        WarnLines x = around100(125, 75, 125, 75, 75);
        warnsBits(x, "z3/5>1;z2/5>1", 2, 0, 0, 2, 2, 3);
        // One that is at the middle is on no side.
        WarnLines middle = around100(100, 101, 101, 100, 99, 99);
        warnsBits(middle, "z1/1>0;z2/3>0", 2, 0, 1, 3, 2, 1, 3);
    }

    private static void warnsByRuns() {
        WarnLines x = Due.row(10, 11, 12, 13, 13, 12, 11, 10, 9, 10, 11);
        warnsBits(x, "r2;r3;r4;r5;r9", 0, 0, 1, 3, 7, 0, 1, 3, 7, 15, 1, 3);
        WarnLines nine = Due.row(1, 2, 3, 4, 5, 6, 7, 8, 9, 10);
        warnsBits(nine, "r9;r8", 7, 2, 3, 3);
        WarnLines parts = new WarnLines();
        Due.group(parts, 10, 11);
        Due.group(parts, 10, 11, 11);
        Due.group(parts, 10, 11, 11, 11);
        warnsBits(parts, "r3", 0, 0, 0, 1);
    }

    private static void warnsByTurns() {
        WarnLines x = Due.row(10, 12, 11, 13, 13, 12, 14, 11, 12, 13, 12);
        warnsBits(x, "a3;a4;a5", 0, 0, 0, 1, 3, 0, 0, 1, 3, 7, 0, 1);
        WarnLines nine = Due.row(5, 4, 5, 4, 5, 4, 5, 4, 5, 4);
        warnsBits(nine, "a9;a8", 6, 0, 2, 3, 3);
    }

    private static void warnsByEight() {
        WarnLines x = Due.row(10, 20, 30);
        warnsBits(x, "r2;r3;r4;a3;z1/1>0;z2/2>0;z3/3>0;z1/1>3", 0, 144, 1, 147);
        Due.write(x, 1, "z1/1>0;z1/1>0;z1/1>0;z1/1>0;z1/1>0;z1/1>0;z1/1>0");
        Due.due("seven alike", x.warns(1, 2), 127);
        Due.write(x, 1, "z5/5>0;z2/3>0;z2/5>0;z3/5>0");
        Due.due("other counts beside each other", x.warns(1, 2), 0);
    }

    private static void warnsByTheTextAsItIs() {
        WarnLines x = Due.row(10, 20, 30);
        warnsBits(x, "r2;r2;a9", 0, 0, 3, 3);
        warnsBits(x, "z1/1>3;z3/3>3", 0, 1, 0, 1);
        warnsBits(x, "z1/1>3", 0, 1, 0, 1);
        warnsBits(x, "", 0, 0, 0, 0);
        warnsBits(x, "a3;a3;r3", 0, 0, 0, 4);
        Due.due("how many", x.warned(0, 1), 1);
        warnsBits(x, "a3", 0, 0, 0, 0);
        Due.due("how many", x.warned(0, 1), 0);
        x.type(0, ';');
        Due.due("not ended", x.warns(0, 2), NOT);
        x.type(0, 'r');
        x.type(0, '3');
        Due.due("ended", x.warns(0, 2), 2);
    }

    private static void blankOnesAreLeftOut() {
        WarnLines x = new WarnLines();
        Due.group(x, 10);
        Due.group(x);
        Due.group(x, 11);
        Due.group(x);
        Due.group(x, 12);
        Due.group(x, 11);
        warnsBits(x, "r3;a3", 0, 0, NOT, 0, NOT, 1, 2);
        Due.due("first", x.warned(0, 0), 4);
        Due.due("how many", x.warned(0, 1), 2);
        x.told(1, 0, 10, 0);
        Due.due("it is told", x.warns(0, 4), 1);
        x.told(1, 0, 11, 0);
        Due.due("it breaks the run", x.warns(0, 4), 0);
    }

    private static void warned() {
        WarnLines x = Due.row(10, 11, 12, 13, 13, 12, 11, 10);
        Due.due("no rules: first", x.warned(0, 0), NONE);
        Due.due("no rules: how many", x.warned(0, 1), 0);
        Due.write(x, 0, "r4");
        Due.due("first", x.warned(0, 0), 3);
        Due.due("how many", x.warned(0, 1), 2);
        Due.write(x, 0, "r4;r3");
        Due.due("first by any", x.warned(0, 0), 2);
        Due.due("how many by any", x.warned(0, 1), 4);
        Due.write(x, 1, "a3");
        Due.due("none", x.warned(1, 0), NONE);
        Due.write(x, 1, "z1/1>3");
        // The middle is 23/2: but for the second and third, and both like them behind, all are far off.
        x.set(2, 999);
        Due.due("with no span there is no step", x.warned(1, 0), 0);
        Due.due("all are far", x.warned(1, 1), 8);
        x.told(0, 1, 12, 0);
        x.told(0, 2, 11, 0);
        Due.due("one span alone makes lines", x.warned(1, 1), 0);
        Due.due("none", x.warned(1, 0), NONE);
    }

    private static void warnedRefusals() {
        WarnLines x = new WarnLines();
        Due.due("text 2", x.warned(2, 0), BAD);
        Due.due("text -1", x.warned(-1, 0), BAD);
        Due.due("what 3", x.warned(0, 3), BAD);
        Due.due("what -1", x.warned(0, -1), BAD);
        Due.due("no middle", x.warned(0, 0), NOT);
        Due.due("no middle: chance", x.warned(0, 2), NOT);
        for (int g = 0; g < 7; g++) {
            Due.group(x, g);
        }
        Due.group(x);
        Due.write(x, 0, "r");
        for (int what = 0; what < 3; what++) {
            Due.due("a fault, " + what, x.warned(0, what), NOT);
        }
        Due.write(x, 0, "r7");
        Due.due("seven that are not blank", x.warned(0, 2), 396);
        x.told(7, 0, 8, 0);
        Due.due("eight", x.warned(0, 2), FULL);
        Due.due("eight, how many", x.warned(0, 1), 2);
        Due.write(x, 0, "r;");
        Due.due("NOT goes ahead of FULL", x.warned(0, 2), NOT);
    }

    private static void chances() {
        WarnLines x = Due.row(10, 20, 30);
        Due.write(x, 0, "r3");
        Due.due("two of six orders", x.warned(0, 2), 333333);
        Due.write(x, 0, "a3");
        Due.due("as many as none", x.warned(0, 2), 1000000);
        Due.write(x, 0, "r2");
        Due.due("two in every order", x.warned(0, 2), 1000000);
        WarnLines equal = Due.row(10, 10, 30);
        Due.write(equal, 0, "r2");
        // 10 10 30 and 30 10 10 warn once, 10 30 10 twice.
        Due.due("one or more in each", equal.warned(0, 2), 1000000);
        equal.told(0, 0, 30, 0);
        equal.told(1, 0, 10, 0);
        Due.due("two in a third of them", equal.warned(0, 2), 333333);
        WarnLines four = around100(131, 100);
        Due.write(four, 0, "z1/2>3");
        // The far one makes itself and the one behind it warn, if there is one.
        Due.due("how many", four.warned(0, 1), 2);
        Due.due("three of four", four.warned(0, 2), 750000);
        WarnLines last = around100(100, 131);
        Due.write(last, 0, "z1/2>3");
        Due.due("as many as one", last.warned(0, 2), 1000000);
        for (int many = 2; many <= 7; many++) {
            WarnLines rising = new WarnLines();
            int orders = 1;
            for (int g = 1; g <= many; g++) {
                Due.group(rising, g);
                orders *= g;
            }
            Due.write(rising, 0, "r2");
            Due.due("all of " + many + " but the first warn in any order", rising.warned(0, 2), 1000000);
            Due.write(rising, 0, "r" + many);
            Due.due("up or down, of " + orders + " orders", rising.warned(0, 2), 2000000 / orders);
        }
        WarnLines one = Due.row(5);
        Due.write(one, 0, "r2");
        Due.due("one group alone", one.warned(0, 2), 1000000);
    }
}

/** Promises 16 to 19: odds, oddsOf, soon, cheaper. */
public final class OddsTest {
    private static final int BAD = WarnLines.BAD, NOT = WarnLines.NOT;

    public static void main(String[] args) {
        odds();
        oddsOf();
        soonRefusals();
        soonOfOne();
        soonByTheLastOnes();
        soonShifted();
        soonFar();
        cheaperRefusals();
        cheaper();
        Due.close();
    }

    private static void lay(WarnLines x, int s, int form, int... items) {
        x.sheet(s, form, items.length);
        for (int i = 0; i < items.length; i++) {
            x.lay(s, form, i, items[i]);
        }
    }

    private static void odds() {
        WarnLines x = new WarnLines();
        Due.due("sheet 4", x.odds(4), BAD);
        Due.due("sheet -1", x.odds(-1), BAD);
        Due.due("a lost one", x.odds(0), -11);
        Due.due("its finding", x.count(8), 1);
        lay(x, 0, 0, 64, 0, 0, 0, 0, 0, 0);
        Due.due("seven items", x.odds(0), -12);
        Due.due("its finding", x.count(8), 2);
        lay(x, 0, 0, 1, 2, 3, 4, 5, 6, 7, 35);
        Due.due("63 together", x.odds(0), NOT);
        Due.due("nothing has changed", x.oddsOf(1), 2);
        lay(x, 0, 0, 1, 2, 3, 4, 5, 6, 7, 37);
        Due.due("65 together", x.odds(0), NOT);
        lay(x, 0, 1, 65, -1, 0, 0, 0, 0, 0, 0);
        Due.due("one below 0", x.odds(0), NOT);
        lay(x, 0, 2, 1 << 30, 1 << 30, 1 << 30, 1 << 30, 64, 0, 0, 0);
        Due.due("64 by wrapping alone", x.odds(0), NOT);
        lay(x, 3, 2, 1, 2, 3, 4, 5, 6, 7, 36, 99, -5);
        Due.due("the first eight items", x.odds(3), 1);
        for (int c = 0; c < 8; c++) {
            Due.due("odds of " + c, x.oddsOf(c), c < 7 ? c + 1 : 36);
        }
        x.lose(3);
        Due.due("they stand without the sheet", x.oddsOf(7), 36);
    }

    private static void oddsOf() {
        WarnLines x = new WarnLines();
        Due.due("class -1", x.oddsOf(-1), BAD);
        Due.due("class 8", x.oddsOf(8), BAD);
        Due.due("class 0", x.oddsOf(0), 0);
        Due.due("class 7", x.oddsOf(7), 0);
        Due.due("class 3", x.oddsOf(3), 21);
    }

    private static void soonRefusals() {
        WarnLines x = new WarnLines();
        Due.due("text 2", x.soon(2, 1, 0, true, 0), Due.LONG_BAD);
        Due.due("text -1", x.soon(-1, 1, 0, true, 0), Due.LONG_BAD);
        Due.due("m 0", x.soon(0, 0, 0, true, 0), Due.LONG_BAD);
        Due.due("m 10", x.soon(0, 10, 0, true, 0), Due.LONG_BAD);
        Due.due("d -8", x.soon(0, 1, -8, true, 0), Due.LONG_BAD);
        Due.due("d 8", x.soon(0, 1, 8, true, 0), Due.LONG_BAD);
        Due.due("what 2", x.soon(0, 1, 0, true, 2), Due.LONG_BAD);
        Due.due("what -1", x.soon(0, 1, 0, true, -1), Due.LONG_BAD);
        Due.due("no rules: above", x.soon(0, 9, 7, false, 0), 0);
        Due.due("no rules: below", x.soon(0, 9, 7, false, 1), 1);
        Due.write(x, 0, "z1/1>0;");
        Due.due("a fault", x.soon(0, 1, 0, true, 0), Due.LONG_NOT);
        Due.due("BAD goes ahead", x.soon(0, 0, 0, true, 0), Due.LONG_BAD);
        Due.write(x, 0, "z1/1>0;r2");
        Due.due("a rule of r", x.soon(0, 1, 0, true, 0), Due.LONG_NOT);
        Due.write(x, 0, "a3;z1/1>0");
        Due.due("a rule of a", x.soon(0, 1, 0, true, 0), Due.LONG_NOT);
        Due.write(x, 0, "z1/1>0");
        Due.due("of z alone, with no middle", x.soon(0, 1, 0, true, 0), 1);
    }

    private static void soonIs(WarnLines x, String call, long[] got, long above, long below) {
        Due.due(call + ", above", got[0], above);
        Due.due(call + ", below", got[1], below);
    }

    private static long[] soon(WarnLines x, int text, int m, int d, boolean just) {
        return new long[] {x.soon(text, m, d, just, 0), x.soon(text, m, d, just, 1)};
    }

    private static void soonOfOne() {
        WarnLines x = new WarnLines();
        Due.write(x, 0, "z1/1>2");
        // Four of 64 are in zone 2 on either side.
        soonIs(x, "at 1", soon(x, 0, 1, 0, true), 1, 16);
        soonIs(x, "up to 1", soon(x, 0, 1, 0, false), 1, 16);
        soonIs(x, "at 2 just", soon(x, 0, 2, 0, true), 15, 256);
        soonIs(x, "up to 2", soon(x, 0, 2, 0, false), 31, 256);
        soonIs(x, "at 9 just", soon(x, 0, 9, 0, true), 2562890625L, 68719476736L);
        Due.write(x, 1, "z1/1>0");
        soonIs(x, "all warn", soon(x, 1, 1, 0, true), 1, 1);
        soonIs(x, "never later", soon(x, 1, 2, 0, true), 0, 1);
        soonIs(x, "up to later", soon(x, 1, 9, 0, false), 1, 1);
    }

    private static void soonByTheLastOnes() {
        WarnLines x = new WarnLines();
        lay(x, 0, 0, 0, 0, 0, 32, 32, 0, 0, 0);
        x.odds(0);
        // Two alike one after the other: as a coin falls.
        Due.write(x, 0, "z2/2>0");
        soonIs(x, "at 1", soon(x, 0, 1, 0, true), 0, 1);
        soonIs(x, "at 2", soon(x, 0, 2, 0, true), 1, 2);
        soonIs(x, "at 3", soon(x, 0, 3, 0, true), 1, 4);
        soonIs(x, "up to 9", soon(x, 0, 9, 0, false), 255, 256);
        Due.write(x, 0, "z2/3>0");
        soonIs(x, "two of three, up to 2", soon(x, 0, 2, 0, false), 1, 2);
        soonIs(x, "two of three, up to 3", soon(x, 0, 3, 0, false), 1, 1);
        Due.write(x, 0, "z3/5>0");
        soonIs(x, "three of five, at 3", soon(x, 0, 3, 0, true), 1, 4);
        soonIs(x, "three of five, at 4", soon(x, 0, 4, 0, true), 3, 8);
        soonIs(x, "three of five, at 5", soon(x, 0, 5, 0, true), 3, 8);
        Due.write(x, 0, "z5/5>0");
        soonIs(x, "five of five, up to 4", soon(x, 0, 4, 0, false), 0, 1);
        soonIs(x, "five of five, at 5", soon(x, 0, 5, 0, true), 1, 16);
        for (int m = 6; m <= 9; m++) {
            soonIs(x, "five of five, at " + m, soon(x, 0, m, 0, true), 1, 32);
        }
        // One far group and then another four behind: the first is looked at no more.
        lay(x, 0, 0, 0, 0, 0, 0, 63, 0, 0, 1);
        x.odds(0);
        Due.write(x, 0, "z2/5>3");
        soonIs(x, "two of five far, at 2", soon(x, 0, 2, 0, true), 1, 4096);
        soonIs(x, "at 3", soon(x, 0, 3, 0, true), 63, 131072);
    }

    private static void soonShifted() {
        WarnLines x = new WarnLines();
        Due.write(x, 0, "z1/1>3");
        soonIs(x, "without", soon(x, 0, 1, 0, true), 0, 1);
        soonIs(x, "one up", soon(x, 0, 1, 1, true), 1, 32);
        soonIs(x, "one down", soon(x, 0, 1, -1, true), 1, 32);
        soonIs(x, "two up", soon(x, 0, 1, 2, true), 11, 64);
        soonIs(x, "three up", soon(x, 0, 1, 3, true), 1, 2);
        soonIs(x, "seven up", soon(x, 0, 1, 7, true), 1, 1);
        soonIs(x, "seven down", soon(x, 0, 1, -7, true), 1, 1);
        lay(x, 0, 0, 10, 0, 0, 0, 0, 0, 0, 54);
        x.odds(0);
        soonIs(x, "all are at the ends", soon(x, 0, 1, 0, true), 1, 1);
        soonIs(x, "one up, the end stays", soon(x, 0, 1, 1, true), 27, 32);
        soonIs(x, "one down, the end stays", soon(x, 0, 1, -1, true), 5, 32);
    }

    private static void soonFar() {
        WarnLines x = new WarnLines();
        Due.write(x, 0, "z1/1>3;z2/3>2;z4/5>1;z5/5>0");
        long above = 0;
        for (int m = 1; m <= 9; m++) {
            long[] just = soon(x, 0, m, 1, true);
            long[] upTo = soon(x, 0, m, 1, false);
            long all = 1L << 6 * m;
            above = above * 64 + just[0] * (all / just[1]);
            Due.due("up to " + m + " is the sum of what is just", upTo[0] * (all / upTo[1]), above);
        }
    }

    private static void cheaperRefusals() {
        WarnLines x = new WarnLines();
        Due.due("m 0", x.cheaper(0, 0, 0), Due.LONG_BAD);
        Due.due("m 10", x.cheaper(10, 0, 0), Due.LONG_BAD);
        Due.due("d -8", x.cheaper(1, -8, 0), Due.LONG_BAD);
        Due.due("d 8", x.cheaper(1, 8, 0), Due.LONG_BAD);
        Due.due("what 3", x.cheaper(1, 0, 3), Due.LONG_BAD);
        Due.due("what -1", x.cheaper(1, 0, -1), Due.LONG_BAD);
        Due.write(x, 1, "r2");
        Due.due("text 1 is not of z alone", x.cheaper(1, 0, 2), Due.LONG_NOT);
        Due.due("BAD goes ahead", x.cheaper(1, 0, 3), Due.LONG_BAD);
        x.wipe(1);
        Due.write(x, 0, "z");
        Due.due("text 0 has a fault", x.cheaper(1, 0, 2), Due.LONG_NOT);
    }

    private static void cheaper() {
        WarnLines x = new WarnLines();
        Due.due("two empty texts: 0", x.cheaper(3, 1, 2), 0);
        Due.due("never warns: LATE", x.cheaper(3, 1, 0), 10);
        Due.due("by 1", x.cheaper(3, 1, 1), 1);
        Due.write(x, 1, "z1/1>3");
        // Text 1 warns 0 of 64 without and 11 of 64 with a shift of 2: 10 times 53 by 64.
        Due.due("text 1 is cheaper", x.cheaper(1, 2, 2), 1);
        Due.due("its cost above", x.cheaper(1, 2, 0), 265);
        Due.due("its cost below", x.cheaper(1, 2, 1), 32);
        Due.due("without a shift both are alike", x.cheaper(1, 0, 2), 0);
        Due.write(x, 0, "z1/1>0");
        // Text 0 warns at once: FALSE.
        Due.due("text 1 still", x.cheaper(1, 2, 2), 1);
        x.set(8, 3);
        Due.due("text 0 now", x.cheaper(1, 2, 2), 0);
        Due.due("its cost", x.cheaper(1, 2, 0), 3);
        x.set(9, 3);
        Due.due("text 1 again", x.cheaper(1, 2, 2), 1);
        Due.due("its cost above", x.cheaper(1, 2, 0), 159);
        Due.due("its cost below", x.cheaper(1, 2, 1), 64);
        x.set(8, 0);
        x.set(9, 0);
        Due.due("nothing costs: 0", x.cheaper(9, 7, 2), 0);
        Due.due("its cost above", x.cheaper(9, 7, 0), 0);
        Due.due("its cost below", x.cheaper(9, 7, 1), 1);
        x.set(8, 99);
        x.set(9, 99);
        Due.write(x, 0, "z1/1>1");
        Due.due("nine groups, dear", x.cheaper(9, 0, 2), 0);
        Due.due("99 whichever way", x.cheaper(9, 0, 0), 99);
    }
}

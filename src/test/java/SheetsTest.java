/** Promises 25 to 32: sheet, lose, lay, get, copy, write, count, digest. */
public final class SheetsTest {
    private static final int NONE = WarnLines.NONE, BAD = WarnLines.BAD, NOT = WarnLines.NOT, FULL = WarnLines.FULL;
    private static final int LEAST = Integer.MIN_VALUE;
    private static final int NULL = -11, INDEX = -12, CAST = -13, STORE = -14, SIZE = -15;

    public static void main(String[] args) {
        constants();
        sheet();
        lose();
        lay();
        get();
        copy();
        copyRefusals();
        write();
        count();
        digestOfNothing();
        digest();
        Due.close();
    }

    private static void constants() {
        Due.due("NONE", NONE, -1);
        Due.due("BAD", BAD, -2);
        Due.due("NOT", NOT, -3);
        Due.due("FULL", FULL, -4);
    }

    private static void sheet() {
        WarnLines x = new WarnLines();
        Due.due("sheet -1", x.sheet(-1, 0, 1), BAD);
        Due.due("sheet 4", x.sheet(4, 0, 1), BAD);
        Due.due("form -1", x.sheet(0, -1, 1), BAD);
        Due.due("form 3", x.sheet(0, 3, 1), BAD);
        Due.due("61 items", x.sheet(0, 0, 61), BAD);
        Due.due("form 3, size below 0", x.sheet(0, 3, -1), BAD);
        Due.due("no finding yet", x.count(8), 0);
        Due.due("size -1", x.sheet(0, 0, -1), SIZE);
        Due.due("size the least", x.sheet(0, 0, LEAST), SIZE);
        Due.due("finding", x.count(8), 5);
        Due.due("it is lost still", x.lose(0), NULL);
        Due.due("60 items", x.sheet(0, 2, 60), 60);
        Due.due("0 at first", x.get(0, 2, 59), 0);
        x.lay(0, 2, 0, 9);
        x.lay(0, 2, 3, 9);
        Due.due("a new row", x.sheet(0, 2, 3), 3);
        Due.due("0 again", x.get(0, 2, 0), 0);
        Due.due("a larger one", x.sheet(0, 2, 4), 4);
        Due.due("0 again", x.get(0, 2, 3), 0);
        Due.due("a refusal leaves it", x.sheet(0, 1, -1), SIZE);
        Due.due("as it was", x.get(0, 2, 3), 0);
        Due.due("no items", x.sheet(3, 1, 0), 0);
        Due.due("it is not lost", x.lose(3), 0);
    }

    private static void lose() {
        WarnLines x = new WarnLines();
        Due.due("sheet -1", x.lose(-1), BAD);
        Due.due("sheet 4", x.lose(4), BAD);
        Due.due("lost", x.lose(0), NULL);
        Due.due("finding", x.count(8), 1);
        x.sheet(0, 0, 7);
        Due.due("seven items", x.lose(0), 7);
        Due.due("lost again", x.lose(0), NULL);
        x.sheet(0, 0, 2);
        Due.due("two items", x.lose(0), 2);
    }

    private static void lay() {
        WarnLines x = new WarnLines();
        Due.due("sheet -1", x.lay(-1, 0, 0, 0), BAD);
        Due.due("sheet 4", x.lay(4, 0, 0, 0), BAD);
        Due.due("form 3", x.lay(0, 3, 0, 0), BAD);
        Due.due("form -1", x.lay(0, -1, 0, 0), BAD);
        Due.due("lost", x.lay(0, 0, 0, 0), NULL);
        x.sheet(0, 0, 2);
        x.sheet(1, 1, 2);
        x.sheet(2, 2, 2);
        Due.due("another form", x.lay(0, 1, 0, 0), CAST);
        Due.due("finding", x.count(8), 3);
        Due.due("another form, no such item", x.lay(0, 1, 2, 0), CAST);
        Due.due("item 2", x.lay(0, 0, 2, 0), INDEX);
        Due.due("finding", x.count(8), 2);
        Due.due("item -1", x.lay(0, 0, -1, 0), INDEX);
        x.sheet(3, 0, 1);
        Due.due("sheet 3", x.lay(3, 0, 0, 5), 1);
        Due.due("item of sheet 3", x.get(3, 0, 0), 5);
        int[] values = {127, 128, 255, 256, -1, -128, -129, 32767, 32768, 65535, 65536, -32768, -32769,
            Integer.MAX_VALUE, LEAST};
        for (int v : values) {
            Due.due("byte " + v, x.lay(0, 0, 1, v), 1);
            Due.due("byte of " + v, x.get(0, 0, 1), (byte) v);
            Due.due("short " + v, x.lay(1, 1, 1, v), 1);
            Due.due("short of " + v, x.get(1, 1, 1), (short) v);
            Due.due("int " + v, x.lay(2, 2, 1, v), 1);
            Due.due("int of " + v, x.get(2, 2, 1), v);
        }
        Due.due("the item beside it", x.get(2, 2, 0), 0);
    }

    private static void get() {
        WarnLines x = new WarnLines();
        Due.due("sheet -1", x.get(-1, 0, 0), LEAST);
        Due.due("sheet 4", x.get(4, 0, 0), LEAST);
        Due.due("form 3", x.get(0, 3, 0), LEAST);
        Due.due("form -1", x.get(0, -1, 0), LEAST);
        Due.due("BAD is no finding", x.count(8), 0);
        Due.due("lost", x.get(0, 0, 0), LEAST);
        Due.due("finding", x.count(8), 1);
        x.sheet(0, 1, 2);
        Due.due("another form, no such item", x.get(0, 0, 9), LEAST);
        Due.due("finding", x.count(8), 3);
        Due.due("item 2", x.get(0, 1, 2), LEAST);
        Due.due("finding", x.count(8), 2);
        Due.due("item -1", x.get(0, 1, -1), LEAST);
        Due.due("item there", x.get(0, 1, 1), 0);
        Due.due("the finding stays", x.count(8), 2);
    }

    private static void itemsAre(WarnLines x, int s, int form, int... items) {
        for (int i = 0; i < items.length; i++) {
            Due.due("item " + i + " of sheet " + s, x.get(s, form, i), items[i]);
        }
    }

    private static WarnLines withSheets() {
        WarnLines x = new WarnLines();
        x.sheet(0, 1, 5);
        x.sheet(1, 1, 3);
        x.sheet(2, 2, 3);
        for (int i = 0; i < 5; i++) {
            x.lay(0, 1, i, i + 1);
        }
        return x;
    }

    private static void copy() {
        WarnLines x = withSheets();
        Due.due("two items", x.copy(0, 3, 1, 1, 2), 1);
        itemsAre(x, 1, 1, 0, 4, 5);
        itemsAre(x, 0, 1, 1, 2, 3, 4, 5);
        Due.due("onto itself, behind", x.copy(0, 0, 0, 1, 4), 1);
        itemsAre(x, 0, 1, 1, 1, 2, 3, 4);
        Due.due("onto itself, ahead", x.copy(0, 1, 0, 0, 4), 1);
        itemsAre(x, 0, 1, 1, 2, 3, 4, 4);
        Due.due("all", x.copy(0, 0, 0, 0, 5), 1);
        Due.due("none, at both ends", x.copy(0, 5, 1, 3, 0), 1);
        itemsAre(x, 1, 1, 0, 4, 5);
    }

    private static void copyRefusals() {
        WarnLines x = withSheets();
        Due.due("s -1", x.copy(-1, 0, 0, 0, 0), BAD);
        Due.due("s 4", x.copy(4, 0, 0, 0, 0), BAD);
        Due.due("t -1", x.copy(0, 0, -1, 0, 0), BAD);
        Due.due("t 4", x.copy(3, 0, 4, 0, 0), BAD);
        Due.due("s is lost", x.copy(3, 0, 0, 0, 0), NULL);
        Due.due("t is lost", x.copy(0, -1, 3, 0, 0), NULL);
        Due.due("unlike forms, and no such item", x.copy(0, -1, 2, 0, 0), STORE);
        Due.due("finding", x.count(8), 4);
        int[][] wrong = {{-1, 0, 1}, {0, -1, 1}, {0, 0, -1}, {3, 0, 3}, {0, 1, 3}, {0, 0, 4}, {6, 0, 0}, {0, 4, 0},
            {1, 0, Integer.MAX_VALUE}, {Integer.MAX_VALUE, 0, 1}, {0, Integer.MAX_VALUE, 1}, {LEAST, 0, 0},
            {0, 0, LEAST}, {Integer.MAX_VALUE, Integer.MAX_VALUE, Integer.MAX_VALUE}};
        for (int[] each : wrong) {
            String call = "copy of " + each[2] + " from " + each[0] + " to " + each[1];
            Due.due(call, x.copy(0, each[0], 1, each[1], each[2]), INDEX);
        }
        Due.due("finding", x.count(8), 2);
        itemsAre(x, 1, 1, 0, 0, 0);
    }

    private static void write() {
        WarnLines x = new WarnLines();
        Due.due("sheet 4", x.write(4), BAD);
        Due.due("sheet -1", x.write(-1), BAD);
        Due.due("lost", x.write(0), NULL);
        x.sheet(0, 0, 4);
        Due.due("no middle", x.write(0), NOT);
        Due.group(x, 10);
        Due.group(x);
        Due.group(x, 20);
        Due.group(x, 15);
        Due.group(x, 1);
        x.set(1, 3);
        for (int i = 0; i < 4; i++) {
            x.lay(0, 0, i, 99);
        }
        Due.due("as many as there are items", x.write(0), 4);
        itemsAre(x, 0, 0, 0, -1, 7, 4);
        x.sheet(1, 2, 7);
        x.lay(1, 2, 5, 99);
        Due.due("as many as there are groups", x.write(1), 5);
        itemsAre(x, 1, 2, 0, -1, 7, 4, 0, 99, 0);
        x.sheet(3, 1, 0);
        Due.due("no items", x.write(3), 0);
    }

    private static void count() {
        WarnLines x = new WarnLines();
        Due.due("what -1", x.count(-1), BAD);
        Due.due("what 9", x.count(9), BAD);
        Due.group(x, 1, 2, 3);
        Due.group(x);
        x.told(0, 0, -1, 3);
        x.told(0, 1, 5, 4);
        x.cause(0, 0);
        Due.write(x, 0, "r2");
        Due.write(x, 1, "r2;");
        x.set(3, 3);
        x.lose(2);
        int[] due = {2, 1, 5, 2, 1, 2, 3, 3, 1};
        for (int what = 0; what < due.length; what++) {
            Due.due("count " + what, x.count(what), due[what]);
        }
    }

    private static long with(long h, long... all) {
        for (long each : all) {
            h = 31 * h + each;
        }
        return h;
    }

    private static void digestOfNothing() {
        long h = with(17, 0, 0, 0, 0, 0, 0, 0, 999);
        h = with(h, NONE, NONE);
        h = with(h, Due.LONG_NOT, Due.LONG_NOT, Due.LONG_NOT, Due.LONG_NOT, NOT);
        h = with(h, NOT, NOT, 0, 1, NOT, NOT, NOT, 0, 1, NOT);
        h = with(h, NOT, NOT, NOT, NOT);
        Due.due("digest of a new object", new WarnLines().digest(), h);
    }

    private static void digest() {
        WarnLines x = Due.row(10, 25, 10);
        x.group();
        x.set(1, 0);
        x.cause(3, 1);
        Due.write(x, 0, "z1/1>3");
        Due.write(x, 1, "r2;a");
        long h = with(17, 4, 1, 3, 3, 1, 6, 4, 999);
        h = with(h, NONE, 4);
        h = with(h, 10, 1, 0, 1, 0);
        h = with(h, 4, 0, NOT, 10000);
        h = with(h, 7, 1, NOT, 13750);
        h = with(h, 4, 0, NOT, 12812);
        h = with(h, NOT, NOT, NOT, NOT);
        // One of 32 at each: 1 less 31/32 to the fourth.
        h = with(h, 1, 1, 125055, 1048576, 3);
        h = with(h, NOT, NOT, Due.LONG_NOT, Due.LONG_NOT, NOT);
        h = with(h, 1, 1, 1, 3);
        Due.due("digest", x.digest(), h);
        Due.due("it changes nothing", x.digest(), h);
        x.lose(0);
        Due.due("findings are not in it", x.digest(), h);
        x.told(3, 0, 25, 0);
        h = with(17, 4, 0, 4, 4, 1, 6, 4, 999);
        h = with(h, NONE, 4);
        h = with(h, 10, 1, 0, 1, 0);
        h = with(h, 4, 0, NOT, 10000);
        h = with(h, 7, 1, NOT, 13750);
        h = with(h, 4, 0, NOT, 12812);
        h = with(h, 7, 1, NOT, 15859);
        h = with(h, 1, 2, 125055, 1048576, 3);
        h = with(h, NOT, NOT, Due.LONG_NOT, Due.LONG_NOT, NOT);
        h = with(h, 1, 1, 1, 3);
        Due.due("digest of more", x.digest(), h);
    }
}

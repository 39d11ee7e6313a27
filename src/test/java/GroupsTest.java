/** Promises 1 to 10: a new object, group, told, read, set, value, of, base, leftOut, zone. */
public final class GroupsTest {
    private static final int NONE = WarnLines.NONE, BAD = WarnLines.BAD, NOT = WarnLines.NOT, FULL = WarnLines.FULL;

    public static void main(String[] args) {
        newObject();
        group();
        told();
        toldLate();
        read();
        readAsLongAsItMay();
        set();
        asOf();
        value();
        of();
        base();
        baseFromTo();
        leftOut();
        leftOutAgainAndAgain();
        zone();
        Due.close();
    }

    private static void newObject() {
        WarnLines x = new WarnLines();
        for (int what = 0; what <= 6; what++) {
            Due.due("count " + what + " of a new object", x.count(what), 0);
        }
        Due.due("AS OF of a new object", x.count(7), 999);
        Due.due("no finding yet", x.count(8), 0);
        for (int s = 0; s < 4; s++) {
            Due.due("sheet " + s + " is lost", x.lose(s), -11);
        }
        int[] odds = {0, 2, 9, 21, 21, 9, 2, 0};
        for (int c = 0; c < 8; c++) {
            Due.due("odds of " + c, x.oddsOf(c), odds[c]);
        }
        int[] first = {0, 19, 58, 999, 1, 9, 2, 2, 10, 10};
        for (int what = 0; what < 10; what++) {
            Due.due("setting " + what, x.set(what, first[what]), first[what]);
        }
        Due.due("no middle", x.leftOut(), NOT);
    }

    private static void group() {
        WarnLines x = new WarnLines();
        for (int g = 0; g < 20; g++) {
            Due.due("group " + g, x.group(), g);
        }
        Due.due("group 20", x.group(), FULL);
        Due.due("groups", x.count(0), 20);
        Due.due("all blank", x.count(1), 20);
        Due.due("the last one is there", x.told(19, 4, 999, 999), 1);
        Due.due("another is not", x.told(20, 4, 999, 999), BAD);
    }

    private static void told() {
        WarnLines x = new WarnLines();
        Due.due("no group", x.told(0, 0, 1, 0), BAD);
        x.group();
        Due.due("group -1", x.told(-1, 0, 1, 0), BAD);
        Due.due("group 1", x.told(1, 0, 1, 0), BAD);
        Due.due("piece -1", x.told(0, -1, 1, 0), BAD);
        Due.due("piece 5", x.told(0, 5, 1, 0), BAD);
        Due.due("v -2", x.told(0, 0, -2, 0), BAD);
        Due.due("v 1000", x.told(0, 0, 1000, 0), BAD);
        Due.due("time -1", x.told(0, 0, 1, -1), BAD);
        Due.due("time 1000", x.told(0, 0, 1, 1000), BAD);
        Due.due("a refusal tells nothing", x.count(2), 0);
        Due.due("least of all", x.told(0, 0, 0, 0), 1);
        Due.due("most of all", x.told(0, 4, 999, 999), 2);
        Due.due("a time less than the one before", x.told(0, 1, 5, 998), BAD);
        Due.due("the same time", x.told(0, 1, 5, 999), 3);
        for (int i = 4; i <= 100; i++) {
            Due.due("telling " + i, x.told(0, 2, i, 999), i);
        }
        Due.due("telling 101", x.told(0, 2, 1, 999), FULL);
        Due.due("telling 101, wrong too", x.told(0, 2, 1, 998), BAD);
        Due.due("the 100th stands", x.value(0, 2), 100);
        Due.due("tellings", x.count(2), 100);
    }

    private static void toldLate() {
        WarnLines x = new WarnLines();
        x.group();
        x.group();
        x.told(0, 0, 10, 5);
        Due.due("another group's time counts too", x.told(1, 0, 10, 4), BAD);
        x.told(0, 0, 20, 5);
        Due.due("the latest is so", x.value(0, 0), 20);
        x.told(0, 1, 30, 6);
        Due.due("mean", x.of(0, 0, 0), 25);
        Due.due("taken back", x.told(0, 0, -1, 7), 4);
        Due.due("not known", x.value(0, 0), NONE);
        Due.due("mean of what is left", x.of(0, 0, 0), 30);
        Due.due("taken back once more", x.told(0, 0, -1, 7), 5);
        Due.due("told again", x.told(0, 0, 40, 8), 6);
        Due.due("value", x.value(0, 0), 40);
        Due.due("group 1 is blank", x.count(1), 1);
        Due.due("known values", x.count(3), 2);
    }

    private static void read() {
        WarnLines x = new WarnLines();
        x.group();
        Due.due("sheet -1", x.read(-1, 0, 0), BAD);
        Due.due("sheet 4", x.read(4, 0, 0), BAD);
        Due.due("group 1", x.read(0, 1, 0), BAD);
        Due.due("time 1000", x.read(0, 0, 1000), BAD);
        Due.due("no finding yet", x.count(8), 0);
        Due.due("a lost sheet", x.read(0, 0, 0), -11);
        Due.due("the finding", x.count(8), 1);
        x.sheet(0, 2, 7);
        for (int i = 0; i < 7; i++) {
            x.lay(0, 2, i, 10 * i);
        }
        Due.due("five pieces at most", x.read(0, 0, 3), 5);
        for (int piece = 0; piece < 5; piece++) {
            Due.due("piece " + piece, x.value(0, piece), 10 * piece);
        }
        Due.due("tellings", x.count(2), 5);
        Due.due("a time less than the one before", x.read(0, 0, 2), BAD);
        Due.due("BAD goes ahead of NULL", x.read(1, 0, 2), BAD);
        Due.due("told at its time", x.set(3, 2), 999);
        Due.due("not known by then", x.value(0, 1), NONE);
    }

    private static void readAsLongAsItMay() {
        WarnLines x = new WarnLines();
        x.group();
        x.sheet(0, 1, 4);
        x.lay(0, 1, 0, 7);
        x.lay(0, 1, 1, -1);
        x.lay(0, 1, 2, 1000);
        x.lay(0, 1, 3, 9);
        Due.due("up to what may not be", x.read(0, 0, 9), 2);
        Due.due("piece 0", x.value(0, 0), 7);
        Due.due("piece 1 is taken back", x.value(0, 1), NONE);
        Due.due("piece 3 did not come", x.value(0, 3), NONE);
        x.lay(0, 1, 0, -2);
        Due.due("none comes", x.read(0, 0, 50), 0);
        Due.due("no time was told then", x.told(0, 0, 8, 9), 3);
        x.sheet(3, 0, 0);
        Due.due("an empty sheet", x.read(3, 0, 9), 0);
        for (int i = 4; i <= 97; i++) {
            x.told(0, 0, 1, 9);
        }
        x.sheet(2, 0, 5);
        Due.due("as long as there is room", x.read(2, 0, 9), 3);
        Due.due("no room", x.read(2, 0, 9), 0);
        Due.due("tellings", x.count(2), 100);
    }

    private static void set() {
        WarnLines x = new WarnLines();
        int[] least = {0, 0, 0, 0, 0, 0, 0, 1, 0, 0};
        int[] most = {19, 19, 999, 999, 99, 9999, 19, 8, 99, 99};
        int[] first = {0, 19, 58, 999, 1, 9, 2, 2, 10, 10};
        for (int what = 0; what < 10; what++) {
            Due.due("below the least of " + what, x.set(what, least[what] - 1), -5);
            Due.due("above the most of " + what, x.set(what, most[what] + 1), -5);
            Due.due("the least of " + what, x.set(what, least[what]), first[what]);
            Due.due("the most of " + what, x.set(what, most[what]), least[what]);
            Due.due("it was the most", x.set(what, first[what]), most[what]);
        }
        Due.due("what -1", x.set(-1, 0), -5);
        Due.due("what 10", x.set(10, 0), -5);
    }

    private static void asOf() {
        WarnLines x = new WarnLines();
        x.group();
        x.group();
        x.told(0, 0, 10, 5);
        x.told(1, 0, 20, 6);
        x.told(0, 0, -1, 7);
        x.told(0, 0, 30, 9);
        x.set(3, 4);
        Due.due("nothing is known at 4", x.leftOut(), NOT);
        Due.due("both are blank", x.count(1), 2);
        Due.due("all tellings count", x.count(2), 4);
        x.set(3, 5);
        Due.due("middle at 5", x.base(0, 0), 10);
        x.set(3, 6);
        Due.due("middle at 6", x.base(0, 0), 15);
        x.set(3, 7);
        Due.due("middle at 7", x.base(0, 0), 20);
        Due.due("one is blank at 7", x.count(1), 1);
        x.set(3, 9);
        Due.due("middle at 9", x.base(0, 0), 25);
        Due.due("AS OF", x.count(7), 9);
        Due.due("telling behind AS OF", x.told(1, 1, 500, 10), 5);
        Due.due("is not known yet", x.value(1, 1), NONE);
        Due.due("middle still", x.base(0, 0), 25);
        x.set(3, 10);
        Due.due("is known now", x.value(1, 1), 500);
    }

    private static void value() {
        WarnLines x = new WarnLines();
        Due.due("no group", x.value(0, 0), BAD);
        Due.group(x, 0, 999);
        Due.due("0", x.value(0, 0), 0);
        Due.due("999", x.value(0, 1), 999);
        Due.due("not told", x.value(0, 4), NONE);
        Due.due("piece -1", x.value(0, -1), BAD);
        Due.due("piece 5", x.value(0, 5), BAD);
        Due.due("group -1", x.value(-1, 0), BAD);
        Due.due("group 1", x.value(1, 0), BAD);
    }

    private static void of() {
        WarnLines x = new WarnLines();
        Due.group(x, 10, 11, 13);
        Due.group(x, 7);
        Due.group(x);
        Due.group(x, 0, 0, NONE, 0);
        Due.group(x, 1, 2, 4, 8, 18);
        Due.due("mean above", x.of(0, 0, 0), 34);
        Due.due("mean below", x.of(0, 0, 1), 3);
        Due.due("span above", x.of(0, 1, 0), 3);
        Due.due("span below", x.of(0, 1, 1), 1);
        Due.due("span of one above", x.of(1, 1, 0), 0);
        Due.due("span of one below", x.of(1, 1, 1), 1);
        Due.due("mean 0 above", x.of(3, 0, 0), 0);
        Due.due("mean 0 below", x.of(3, 0, 1), 1);
        Due.due("mean of five above", x.of(4, 0, 0), 33);
        Due.due("mean of five below", x.of(4, 0, 1), 5);
        Due.due("span of five", x.of(4, 1, 0), 17);
        Due.due("blank", x.of(2, 0, 0), Due.LONG_NOT);
        Due.due("blank, span", x.of(2, 1, 1), Due.LONG_NOT);
        Due.due("group -1", x.of(-1, 0, 0), Due.LONG_BAD);
        Due.due("group 5", x.of(5, 0, 0), Due.LONG_BAD);
        Due.due("which 2", x.of(0, 2, 0), Due.LONG_BAD);
        Due.due("which -1", x.of(0, -1, 0), Due.LONG_BAD);
        Due.due("what 2 of a blank one", x.of(2, 0, 2), Due.LONG_BAD);
        Due.due("what -1", x.of(0, 0, -1), Due.LONG_BAD);
    }

    private static void base() {
        WarnLines x = new WarnLines();
        Due.due("nothing", x.base(0, 0), Due.LONG_NOT);
        Due.due("which 2", x.base(2, 0), Due.LONG_BAD);
        Due.due("which -1", x.base(-1, 0), Due.LONG_BAD);
        Due.due("what 2", x.base(0, 2), Due.LONG_BAD);
        Due.due("what -1", x.base(0, -1), Due.LONG_BAD);
        Due.group(x, 10, 13);
        Due.group(x);
        Due.group(x, 12, 12, 13);
        // The means 23/2 and 37/3 make 143/12; the spans 3 and 1 make 2, times 58 by 300.
        Due.due("middle above", x.base(0, 0), 143);
        Due.due("middle below", x.base(0, 1), 12);
        Due.due("step above", x.base(1, 0), 29);
        Due.due("step below", x.base(1, 1), 75);
        x.set(2, 0);
        Due.due("step 0 above", x.base(1, 0), 0);
        Due.due("step 0 below", x.base(1, 1), 1);
        x.set(2, 999);
        Due.due("step above", x.base(1, 0), 333);
        Due.due("step below", x.base(1, 1), 50);
    }

    private static void baseFromTo() {
        WarnLines x = Due.row(10, 20, 40, 80);
        x.set(0, 1);
        x.set(1, 2);
        Due.due("groups 1 and 2", x.base(0, 0), 30);
        x.set(1, 1);
        Due.due("group 1 alone", x.base(0, 0), 20);
        x.set(1, 0);
        Due.due("from more than to", x.base(0, 0), Due.LONG_NOT);
        Due.due("from more than to, leftOut", x.leftOut(), NOT);
        Due.due("from more than to, zone", x.zone(0, 0), NOT);
        x.set(0, 4);
        x.set(1, 19);
        Due.due("no such groups", x.base(0, 0), Due.LONG_NOT);
        x.group();
        Due.due("a blank one alone", x.base(0, 0), Due.LONG_NOT);
        x.told(4, 0, 6, 0);
        Due.due("it is told", x.base(0, 0), 6);
    }

    private static void leftOut() {
        WarnLines x = new WarnLines();
        Due.due("nothing", x.leftOut(), NOT);
        for (int mean : new int[] {11, 12, 11, 31, 11}) {
            Due.group(x, mean - 1, mean + 1);
        }
        Due.due("all would be left out: none is", x.leftOut(), 0);
        x.set(2, 300);
        Due.due("one above is", x.leftOut(), 8);
        Due.due("middle without it", x.base(0, 0), 45);
        Due.due("middle without it, below", x.base(0, 1), 4);
        // 11, 12, 11, 3 and 11: 3 is 33/5 below the middle, where reach 330 puts the third line.
        x.told(3, 0, 2, 1);
        x.told(3, 1, 4, 1);
        x.set(2, 330);
        Due.due("on the third line", x.leftOut(), 0);
        x.set(2, 329);
        Due.due("one below is left out", x.leftOut(), 8);
    }

    private static void leftOutAgainAndAgain() {
        WarnLines x = new WarnLines();
        for (int mean : new int[] {100, 101, 100, 99, 100, 101, 99, 100, 130}) {
            Due.group(x, mean - 1, mean + 1);
        }
        Due.group(x, 850, 950);
        // At first 900 alone is beyond 183 and some 118; without its span 130 is, too.
        x.set(2, 999);
        Due.due("900 alone at first, then 130", x.leftOut(), 1 << 9 | 1 << 8);
        Due.due("middle", x.base(0, 0), 100);
        WarnLines two = Due.row(0, 10);
        Due.due("two at least would be left: none is", two.leftOut(), 0);
        WarnLines equal = Due.row(10, 10, 10);
        Due.due("at the line is not beyond", equal.leftOut(), 0);
        WarnLines three = new WarnLines();
        Due.group(three, 0, 0);
        Due.group(three, 0, 3);
        Due.group(three, 3, 3);
        // The middle is 3/2, the spans' mean 1: with reach 150 the third line is at 3/2 just.
        three.set(2, 150);
        Due.due("on the third line just", three.leftOut(), 0);
        Due.due("zone on the third line", three.zone(2, 1), 2);
        three.set(2, 149);
        Due.due("beyond it: one would be left", three.leftOut(), 0);
        Due.due("zone beyond the third line", three.zone(2, 1), 3);
        WarnLines left = new WarnLines();
        for (int mean : new int[] {500, 501, 900, 100}) {
            Due.group(left, mean, mean + 1);
        }
        left.set(2, 999);
        Due.due("two are left", left.leftOut(), 1 << 2 | 1 << 3);
        WarnLines ends = new WarnLines();
        for (int mean : new int[] {900, 100, 101, 102, 103, 100, 900}) {
            Due.group(ends, mean - 1, mean + 1);
        }
        ends.set(2, 999);
        ends.set(1, 5);
        Due.due("all of the base are beyond: none is left out", ends.leftOut(), 0);
        // 172 with a span of 96, and the others near 100: the third line is some 35 off the middle.
        ends.set(2, 200);
        ends.told(0, 0, 100, 1);
        ends.told(0, 1, 196, 1);
        ends.told(0, 2, 196, 1);
        ends.told(0, 3, 196, 1);
        Due.due("the first of the base", ends.leftOut(), 1);
        ends.told(0, 3, -1, 2);
        ends.told(0, 2, -1, 2);
        ends.told(0, 1, 102, 2);
        ends.told(6, 0, 100, 2);
        ends.told(6, 1, 196, 2);
        ends.told(6, 2, 196, 2);
        ends.told(6, 3, 196, 2);
        Due.due("behind the base", ends.leftOut(), 0);
        ends.set(1, 6);
        Due.due("the last of the base", ends.leftOut(), 1 << 6);
    }

    private static void zone() {
        WarnLines x = new WarnLines();
        // The base is 100 and 120, whose middle is 110; the mean span 30 and reach 100 make steps of 10.
        Due.group(x, 85, 115);
        Due.group(x, 105, 135);
        int[] means = {110, 111, 120, 121, 130, 131, 140, 141, 109, 100, 99, 90, 89, 80, 79};
        int[] sides = {0, 1, 1, 1, 1, 1, 1, 1, 2, 2, 2, 2, 2, 2, 2};
        int[] zones = {0, 0, 0, 1, 1, 2, 2, 3, 0, 0, 1, 1, 2, 2, 3};
        int[] classes = {4, 4, 4, 5, 5, 6, 6, 7, 3, 3, 2, 2, 1, 1, 0};
        x.set(1, 1);
        x.set(2, 100);
        for (int mean : means) {
            Due.group(x, mean);
        }
        Due.group(x);
        for (int i = 0; i < means.length; i++) {
            Due.due("side of " + means[i], x.zone(i + 2, 0), sides[i]);
            Due.due("zone of " + means[i], x.zone(i + 2, 1), zones[i]);
            Due.due("class of " + means[i], x.zone(i + 2, 2), classes[i]);
        }
        Due.due("blank", x.zone(17, 0), NOT);
        Due.due("group 18", x.zone(18, 0), BAD);
        Due.due("group -1", x.zone(-1, 0), BAD);
        Due.due("what 3 of a blank one", x.zone(17, 3), BAD);
        Due.due("what -1", x.zone(0, -1), BAD);
        x.set(2, 0);
        Due.due("with no step a side is in zone 3", x.zone(3, 2), 7);
        Due.due("with no step, below", x.zone(10, 2), 0);
        Due.due("with no step, at the middle", x.zone(2, 2), 4);
    }
}

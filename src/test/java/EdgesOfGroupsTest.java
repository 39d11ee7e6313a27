/** The boundaries that promises 1 to 10 name: a new object, group, told, read, set, value, of, base, leftOut, zone. */
public final class EdgesOfGroupsTest {
    private static final int NONE = WarnLines.NONE, BAD = WarnLines.BAD, NOT = WarnLines.NOT, FULL = WarnLines.FULL;
    private static final int LEAST = Integer.MIN_VALUE, MOST = Integer.MAX_VALUE;

    public static void main(String[] args) {
        aNewObjectHasNothing();
        groupUpTo20();
        toldBounds();
        toldAtTimesThatDoNotFall();
        toldUpToHundred();
        toldAgainAndTakenBack();
        readBounds();
        readAtTimesThatDoNotFall();
        readOfALostSheet();
        readAsLongAsEachMayBe();
        readNoMoreThanThePieces();
        readAsLongAsThereIsRoom();
        readOfNothingTellsNoTime();
        setBounds();
        setOfWhatThereIsNot();
        setFromMoreThanTo();
        valueBounds();
        valuesOfAllPieces();
        valuesThatAreNotKnownYet();
        spansInAnyOrder();
        aGroupMoreLeavesTheOthers();
        ofBounds();
        ofABlankOne();
        baseBounds();
        baseOfNothing();
        leftOutOfNothing();
        zoneBounds();
        zoneOfBlankOnesAndNoMiddle();
        Due.close();
    }

    private static void aNewObjectHasNothing() {
        WarnLines x = new WarnLines();
        for (int what = 0; what < 9; what++) {
            Due.due("count " + what, x.count(what), what == 7 ? 999 : 0);
        }
        for (int g = -1; g < 21; g++) {
            Due.due("there is no group " + g, x.value(g, 0), BAD);
        }
        for (int text = 0; text < 2; text++) {
            Due.due("text " + text + " is well", x.fault(text), NONE);
            Due.due("text " + text + " is empty", x.wipe(text), 0);
        }
        for (int s = 0; s < 4; s++) {
            Due.due("sheet " + s + " is lost", x.lose(s), -11);
        }
        Due.due("a telling at 0 is not too early", x.group() + x.told(0, 0, 5, 0), 1);
    }

    private static void groupUpTo20() {
        WarnLines x = new WarnLines();
        for (int g = 0; g < 20; g++) {
            Due.due("not there yet: " + g, x.told(g, 0, 1, 0), BAD);
            Due.due("group " + g, x.group(), g);
            Due.due("groups", x.count(0), g + 1);
            Due.due("blank ones", x.count(1), 1);
            Due.due("it can be told", x.told(g, 0, g, 0), g + 1);
        }
        Whole.refused("group 20", Whole::twentyGroups, WarnLines::group, FULL);
        Whole.refused("group 20 has no value", Whole::twentyGroups, y -> y.value(20, 0), BAD);
    }

    private static void toldBounds() {
        Whole.bounds("told: group", 0, 4, BAD, (x, n) -> x.told(n, 0, 1, Whole.TIME));
        Whole.bounds("told: piece", 0, 4, BAD, (x, n) -> x.told(0, n, 1, Whole.TIME));
        Whole.bounds("told: v", -1, 999, BAD, (x, n) -> x.told(0, 0, n, Whole.TIME));
        Whole.bounds("told: time", Whole.TIME, 999, BAD, (x, n) -> x.told(0, 0, 1, n));
        WarnLines x = Whole.make();
        for (int v : new int[] {0, 999}) {
            x.told(2, 4, v, Whole.TIME);
            Due.due("value " + v, x.value(2, 4), v);
        }
        x.told(4, 0, 8, Whole.TIME);
        Due.due("the last group, the first piece", x.value(4, 0), 8);
    }

    private static void toldAtTimesThatDoNotFall() {
        WarnLines x = new WarnLines();
        x.group();
        x.group();
        Due.due("before the first time", x.told(0, 0, 1, -1), BAD);
        int[] times = {0, 0, 1, 5, 5, 998, 999, 999};
        for (int i = 0; i < times.length; i++) {
            Due.due("at " + times[i], x.told(i % 2, i % 5, i, times[i]), i + 1);
            Due.due("of the other group, one before " + times[i], x.told(1 - i % 2, 0, 1, times[i] - 1), BAD);
        }
        Due.due("behind the last time", x.told(0, 0, 1, 1000), BAD);
        Due.due("tellings", x.count(2), times.length);
        WarnLines asOf = new WarnLines();
        asOf.group();
        asOf.told(0, 0, 1, 5);
        asOf.set(3, 2);
        Due.due("AS OF is not the time before", asOf.told(0, 0, 1, 4), BAD);
        Due.due("behind AS OF", asOf.told(0, 0, 1, 5), 2);
        WarnLines refused = new WarnLines();
        refused.group();
        refused.told(1, 0, 1, 500);
        Due.due("a refused telling tells no time", refused.told(0, 0, 1, 0), 1);
    }

    private static void toldUpToHundred() {
        WarnLines x = Whole.hundredTellings();
        Due.due("a hundred", x.count(2), 100);
        Whole.refused("a hundred and first", Whole::hundredTellings, y -> y.told(0, 0, 1, Whole.TIME), FULL);
        Whole.refused("one that takes back", Whole::hundredTellings, y -> y.told(0, 0, -1, 999), FULL);
        Whole.refused("BAD goes ahead: group", Whole::hundredTellings, y -> y.told(5, 0, 1, Whole.TIME), BAD);
        Whole.refused("BAD goes ahead: piece", Whole::hundredTellings, y -> y.told(0, 5, 1, Whole.TIME), BAD);
        Whole.refused("BAD goes ahead: v", Whole::hundredTellings, y -> y.told(0, 0, 1000, Whole.TIME), BAD);
        Whole.refused("BAD goes ahead: time", Whole::hundredTellings, y -> y.told(0, 0, 1, Whole.TIME - 1), BAD);
        WarnLines last = new WarnLines();
        last.group();
        for (int n = 1; n <= 99; n++) {
            last.told(0, 0, 1, 0);
        }
        Due.due("the hundredth", last.told(0, 0, 77, 0), 100);
        Due.due("it stands", last.value(0, 0), 77);
    }

    private static void toldAgainAndTakenBack() {
        WarnLines x = new WarnLines();
        x.group();
        Due.due("taken back before it was told", x.told(0, 0, -1, 0), 1);
        Due.due("not known", x.value(0, 0), NONE);
        Due.due("blank", x.count(1), 1);
        Due.due("told", x.told(0, 0, 0, 0), 2);
        Due.due("0 is known", x.value(0, 0), 0);
        Due.due("not blank", x.count(1), 0);
        Due.due("one value", x.count(3), 1);
        Due.due("told again at the same time", x.told(0, 0, 9, 0), 3);
        Due.due("the latest is so", x.value(0, 0), 9);
        Due.due("still one value", x.count(3), 1);
        Due.due("taken back", x.told(0, 0, -1, 0), 4);
        Due.due("blank again", x.count(1), 1);
        Due.due("no value", x.count(3), 0);
    }

    private static void readBounds() {
        Whole.bounds("read: sheet", 0, 3, BAD, (x, n) -> x.read(n, 0, Whole.TIME));
        Whole.bounds("read: group", 0, 4, BAD, (x, n) -> x.read(2, n, Whole.TIME));
        Whole.bounds("read: time", Whole.TIME, 999, BAD, (x, n) -> x.read(2, 0, n));
    }

    private static void readAtTimesThatDoNotFall() {
        WarnLines x = Whole.make();
        Due.due("read at a later time", x.read(2, 2, Whole.TIME + 3), 3);
        Due.due("that is the time before, told", x.told(0, 0, 1, Whole.TIME + 2), BAD);
        Due.due("that is the time before, read", x.read(2, 2, Whole.TIME + 2), BAD);
        Due.due("at the same time", x.read(2, 2, Whole.TIME + 3), 3);
        x.set(3, Whole.TIME + 2);
        Due.due("not known one before it", x.value(2, 0), NONE);
        x.set(3, Whole.TIME + 3);
        Due.due("known at it", x.value(2, 0), 5);
    }

    private static void readOfALostSheet() {
        Whole.found("read of a lost sheet", x -> x.read(3, 0, Whole.TIME), 1);
        Whole.found("with no room", Whole::hundredTellings, x -> x.read(3, 0, Whole.TIME), -11, 1);
        Whole.refused("BAD goes ahead of NULL: group", x -> x.read(3, 5, Whole.TIME), BAD);
        Whole.refused("BAD goes ahead of NULL: time", x -> x.read(3, 0, Whole.TIME - 1), BAD);
        Whole.refused("BAD goes ahead of NULL: late", x -> x.read(3, 0, 1000), BAD);
    }

    private static WarnLines withItems(int form, int... items) {
        WarnLines x = new WarnLines();
        x.group();
        Whole.sheet(x, 3, form, items);
        return x;
    }

    private static void cameOf(String what, int many, int form, int... items) {
        WarnLines x = withItems(form, items);
        Due.due(what + ": came", x.read(3, 0, 0), many);
        Due.due(what + ": tellings", x.count(2), many);
        for (int piece = 0; piece < 5; piece++) {
            Due.due(what + ": piece " + piece, x.value(0, piece), piece < many ? items[piece] : NONE);
        }
    }

    private static void readAsLongAsEachMayBe() {
        cameOf("0 and 999", 5, 1, 0, 999, 999, 0, 0);
        cameOf("1000 first", 0, 1, 1000, 5, 5, 5, 5);
        cameOf("1000 behind one", 1, 2, 5, 1000, 5);
        cameOf("-2 behind two", 2, 0, 5, 6, -2, 5);
        cameOf("-128 behind three", 3, 0, 5, 6, 7, -128, 5);
        cameOf("the most behind four", 4, 2, 5, 6, 7, 8, MOST);
        cameOf("the least", 0, 2, LEAST, 5);
        cameOf("-1, too", 5, 0, -1, 5, -1, 7, -1);
        cameOf("-1 alone", 1, 1, -1);
        WarnLines x = withItems(2, -1, 4);
        x.told(0, 0, 9, 0);
        x.told(0, 2, 8, 0);
        Due.due("over what was told", x.read(3, 0, 0), 2);
        Due.due("taken back", x.value(0, 0), NONE);
        Due.due("told", x.value(0, 1), 4);
        Due.due("as it was", x.value(0, 2), 8);
        Due.due("values", x.count(3), 2);
    }

    private static void readNoMoreThanThePieces() {
        cameOf("no items", 0, 2);
        cameOf("one item", 1, 2, 7);
        cameOf("four", 4, 2, 7, 8, 9, 10);
        cameOf("five", 5, 2, 7, 8, 9, 10, 11);
        WarnLines x = withItems(2, 7, 8, 9, 10, 11, 12, 13);
        Due.due("seven items: five", x.read(3, 0, 0), 5);
        Due.due("seven items: tellings", x.count(2), 5);
        Due.due("seven items: values", x.count(3), 5);
        WarnLines bad = withItems(2, 7, 8, 9, 10, 11, 1000);
        Due.due("the sixth is not looked at", bad.read(3, 0, 0), 5);
    }

    private static void readAsLongAsThereIsRoom() {
        for (int room = 0; room <= 6; room++) {
            WarnLines x = withItems(2, 51, 52, 53, 54, 55);
            x.group();
            for (int n = 0; n < 100 - room; n++) {
                x.told(1, 0, 5, 0);
            }
            int many = Math.min(5, room);
            Due.due("with room for " + room, x.read(3, 0, 0), many);
            Due.due("tellings with room for " + room, x.count(2), 100 - room + many);
            for (int piece = 0; piece < 5; piece++) {
                int due = piece < many ? 51 + piece : NONE;
                Due.due("piece " + piece + " with room for " + room, x.value(0, piece), due);
            }
            if (room < 5) {
                Due.due("no room is left", x.told(0, 0, 1, 0), FULL);
            }
        }
    }

    private static void readOfNothingTellsNoTime() {
        WarnLines x = withItems(1, 1000);
        x.told(0, 0, 5, 3);
        Due.due("none comes", x.read(3, 0, 9), 0);
        Due.due("no time was told", x.told(0, 1, 5, 3), 2);
        x.sheet(2, 0, 0);
        Due.due("none is there", x.read(2, 0, 9), 0);
        Due.due("no time was told", x.told(0, 2, 5, 3), 3);
    }

    private static void setBounds() {
        int[] least = {0, 0, 0, 0, 0, 0, 0, 1, 0, 0};
        int[] most = {19, 19, 999, 999, 99, 9999, 19, 8, 99, 99};
        int[] first = {0, 19, 58, 999, 1, 9, 2, 2, 10, 10};
        for (int what = 0; what < 10; what++) {
            int it = what;
            Whole.bounds("set " + what + " to", least[what], most[what], -5, (x, n) -> x.set(it, n));
            WarnLines x = new WarnLines();
            Due.due("at first " + what, x.set(what, least[what]), first[what]);
            Due.due("refused " + what, x.set(what, least[what] - 1), -5);
            Due.due("the least of " + what, x.set(what, most[what]), least[what]);
            Due.due("refused " + what, x.set(what, most[what] + 1), -5);
            Due.due("the most of " + what, x.set(what, first[what]), most[what]);
            for (int other = 0; other < 10; other++) {
                Due.due("beside " + what + ": " + other, x.set(other, first[other]), first[other]);
            }
        }
    }

    private static void setOfWhatThereIsNot() {
        for (int what : new int[] {-1, 10, LEAST, MOST}) {
            Whole.refused("set " + what, x -> x.set(what, 1), -5);
        }
    }

    private static void setFromMoreThanTo() {
        WarnLines x = Due.row(5, 6);
        Due.due("to 0", x.set(1, 0), 19);
        Due.due("from 1 is not refused", x.set(0, 1), 0);
        Due.due("then there is nothing", x.leftOut(), NOT);
        Due.due("from 19 to 0", x.set(0, 19), 1);
        Due.due("then there is nothing", x.base(0, 0), Due.LONG_NOT);
        Due.due("from 0 again", x.set(0, 0), 19);
        Due.due("there is something", x.base(0, 0), 5);
    }

    private static void valueBounds() {
        Whole.bounds("value: group", 0, 4, BAD, (x, n) -> x.value(n, 0));
        Whole.bounds("value: piece", 0, 4, BAD, (x, n) -> x.value(0, n));
        WarnLines x = Whole.make();
        Due.due("the last piece", x.value(0, 4), 30);
        Due.due("not known", x.value(2, 0), NONE);
    }

    private static int told(int group, int piece) {
        return 40 * group + 9 * piece;
    }

    private static WarnLines allPieces() {
        WarnLines x = new WarnLines();
        for (int g = 0; g < 20; g++) {
            Due.group(x, told(g, 0), told(g, 1), told(g, 2), told(g, 3), told(g, 4));
        }
        return x;
    }

    private static void valuesOfAllPieces() {
        WarnLines x = allPieces();
        for (int g = 0; g < 20; g++) {
            for (int piece = 0; piece < 5; piece++) {
                Due.due("piece " + piece + " of group " + g, x.value(g, piece), told(g, piece));
            }
            Due.due("mean of group " + g, x.of(g, 0, 0), told(g, 2));
            Due.due("span of group " + g, x.of(g, 1, 0), 36);
        }
    }

    /** Piece by piece at a time of its own: at each time those up to it are known, and no others. */
    private static void valuesThatAreNotKnownYet() {
        WarnLines x = new WarnLines();
        for (int i = 0; i < 20; i++) {
            x.group();
        }
        for (int i = 0; i < 100; i++) {
            x.told(i % 20, i / 20, told(i % 20, i / 20), i);
        }
        for (int at : new int[] {99, 50, 0, 19, 20, 73, 39, 98}) {
            x.set(3, at);
            for (int i = 0; i < 100; i++) {
                int value = i <= at ? told(i % 20, i / 20) : NONE;
                Due.due("telling " + i + " as of " + at, x.value(i % 20, i / 20), value);
            }
            Due.due("values as of " + at, x.count(3), at + 1);
            Due.due("blank ones as of " + at, x.count(1), Math.max(0, 19 - at));
        }
    }

    private static void spansInAnyOrder() {
        int[] values = {5, 7, 9, 30, 2};
        for (int a = 0; a < 5; a++) {
            for (int b = 0; b < 5; b++) {
                for (int c = 0; c < 5; c++) {
                    WarnLines x = new WarnLines();
                    Due.group(x, values[a], values[b], values[c]);
                    int greatest = Math.max(values[a], Math.max(values[b], values[c]));
                    int least = Math.min(values[a], Math.min(values[b], values[c]));
                    String three = values[a] + ", " + values[b] + ", " + values[c];
                    Due.due("span of " + three, x.of(0, 1, 0), greatest - least);
                    x.told(0, 3, least, 0);
                    x.told(0, 4, greatest, 0);
                    Due.due("span of five, " + three, x.of(0, 1, 0), greatest - least);
                    x.told(0, 3, Math.min(least + 1, greatest), 0);
                    Due.due("as far as before, " + three, x.of(0, 1, 0), greatest - least);
                }
            }
        }
    }

    private static void aGroupMoreLeavesTheOthers() {
        WarnLines x = new WarnLines();
        for (int many = 1; many <= 20; many++) {
            x.group();
            for (int g = 0; g < many - 1; g++) {
                Due.due("mean of " + g + " of " + many, x.of(g, 0, 0), told(g, 0) + 2 + g);
                Due.due("span of " + g + " of " + many, x.of(g, 1, 0), 2 * g + 4);
            }
            Due.due("the new one is blank", x.of(many - 1, 1, 0), Due.LONG_NOT);
            x.told(many - 1, 0, told(many - 1, 0), 0);
            x.told(many - 1, 1, told(many - 1, 0) + 2 * many + 2, 0);
        }
    }

    private static void ofBounds() {
        Whole.bounds("of: group", 0, 4, Due.LONG_BAD, (x, n) -> x.of(n, 0, 0));
        Whole.bounds("of: which", 0, 1, Due.LONG_BAD, (x, n) -> x.of(0, n, 0));
        Whole.bounds("of: what", 0, 1, Due.LONG_BAD, (x, n) -> x.of(0, 0, n));
        WarnLines x = Whole.make();
        Due.due("the last group", x.of(4, 0, 0), 11);
        Due.due("the mean of three, below", x.of(0, 0, 1), 1);
        Due.due("the span of three", x.of(0, 1, 0), 20);
    }

    private static void ofABlankOne() {
        for (int what = 0; what < 2; what++) {
            int part = what;
            Whole.refused("mean of a blank one", x -> x.of(2, 0, part), Due.LONG_NOT);
            Whole.refused("span of a blank one", x -> x.of(2, 1, part), Due.LONG_NOT);
        }
        Whole.refused("BAD goes ahead: which", x -> x.of(2, 2, 0), Due.LONG_BAD);
        Whole.refused("BAD goes ahead: what", x -> x.of(2, 0, 2), Due.LONG_BAD);
        Due.due("no middle is asked", Whole.noMiddle().of(4, 0, 0), 11);
    }

    private static void baseBounds() {
        Whole.bounds("base: which", 0, 1, Due.LONG_BAD, (x, n) -> x.base(n, 0));
        Whole.bounds("base: what", 0, 1, Due.LONG_BAD, (x, n) -> x.base(0, n));
    }

    private static void baseOfNothing() {
        for (int which = 0; which < 2; which++) {
            for (int what = 0; what < 2; what++) {
                int a = which;
                int b = what;
                Whole.refused("base " + a + " of nothing", Whole::noMiddle, x -> x.base(a, b), Due.LONG_NOT);
            }
        }
        Whole.refused("BAD goes ahead: which", Whole::noMiddle, x -> x.base(2, 0), Due.LONG_BAD);
        Whole.refused("BAD goes ahead: what", Whole::noMiddle, x -> x.base(0, -1), Due.LONG_BAD);
    }

    private static void leftOutOfNothing() {
        Whole.refused("leftOut of nothing", Whole::noMiddle, WarnLines::leftOut, NOT);
        Due.due("of one group", Due.row(5).leftOut(), 0);
    }

    private static void zoneBounds() {
        Whole.bounds("zone: group", 0, 4, BAD, (x, n) -> x.zone(n, 0));
        Whole.bounds("zone: what", 0, 2, BAD, (x, n) -> x.zone(0, n));
    }

    private static void zoneOfBlankOnesAndNoMiddle() {
        for (int what = 0; what < 3; what++) {
            int it = what;
            Whole.refused("zone of a blank one", x -> x.zone(2, it), NOT);
            Whole.refused("zone without a middle", Whole::noMiddle, x -> x.zone(0, it), NOT);
            Whole.refused("zone of a blank one without a middle", Whole::noMiddle, x -> x.zone(2, it), NOT);
        }
        Whole.refused("BAD goes ahead of blank", x -> x.zone(2, 3), BAD);
        Whole.refused("BAD goes ahead of no middle", Whole::noMiddle, x -> x.zone(5, 0), BAD);
        WarnLines x = Due.row(10, 20, 15);
        x.set(1, 1);
        Due.due("-1 is told as 2", x.zone(0, 0), 2);
        Due.due("1", x.zone(1, 0), 1);
        Due.due("0", x.zone(2, 0), 0);
        Due.due("the least class", x.zone(0, 2), 0);
        Due.due("the greatest class", x.zone(1, 2), 7);
        Due.due("side 0 is of the class above", x.zone(2, 2), 4);
    }
}

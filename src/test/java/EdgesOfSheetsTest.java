import java.math.BigInteger;

/** The boundaries that promises 25 to 32 name: sheet, lose, lay, get, copy, write, count, digest. */
public final class EdgesOfSheetsTest {
    private static final int NONE = WarnLines.NONE, BAD = WarnLines.BAD, NOT = WarnLines.NOT;
    private static final int LEAST = Integer.MIN_VALUE, MOST = Integer.MAX_VALUE;
    private static final int NULL = -11, INDEX = -12, CAST = -13, STORE = -14, SIZE = -15;

    public static void main(String[] args) {
        sheetBounds();
        sheetSizes();
        sheetBelow0();
        sheetIsANewRow();
        loseBounds();
        loseOfALostSheet();
        layBounds();
        layFindings();
        layTheLowestBits();
        getBounds();
        getFindings();
        copyBounds();
        copyFindings();
        copyIndexes();
        copyAtTheEnds();
        copyOntoItself();
        writeBounds();
        writeRefusals();
        writeAsManyAsThereAre();
        writeOfClasses();
        countBounds();
        countOfEach();
        digestOfAll();
        Due.close();
    }

    private static void sheetBounds() {
        Whole.bounds("sheet: s", 0, 3, BAD, (x, n) -> x.sheet(n, 0, 1));
        Whole.bounds("sheet: form", 0, 2, BAD, (x, n) -> x.sheet(0, n, 1));
        for (int n : new int[] {61, 100, MOST}) {
            Whole.refused("sheet of " + n, x -> x.sheet(1, 1, n), BAD);
            Whole.refused("a lost sheet of " + n, x -> x.sheet(3, 1, n), BAD);
        }
    }

    private static void sheetSizes() {
        for (int n = 0; n <= 60; n++) {
            WarnLines x = Whole.make();
            Due.due("sheet of " + n, x.sheet(0, n % 3, n), n);
            Due.due("item " + n, x.lay(0, n % 3, n, 1), INDEX);
            if (n > 0) {
                Due.due("item " + (n - 1), x.lay(0, n % 3, n - 1, 1), 1);
            }
            Due.due("it had", x.lose(0), n);
        }
    }

    private static void sheetBelow0() {
        for (int n : new int[] {-1, -61, LEAST}) {
            Whole.found("sheet of " + n, x -> x.sheet(1, 1, n), 5);
            Whole.found("a lost sheet of " + n, x -> x.sheet(3, 1, n), 5);
            Whole.refused("BAD goes ahead: s, of " + n, x -> x.sheet(4, 0, n), BAD);
            Whole.refused("BAD goes ahead: form, of " + n, x -> x.sheet(0, 3, n), BAD);
        }
        Due.due("SIZE", Whole.make().sheet(0, 0, -1), SIZE);
    }

    private static void sheetIsANewRow() {
        for (int was = 0; was < 3; was++) {
            for (int form = 0; form < 3; form++) {
                WarnLines x = new WarnLines();
                Whole.sheet(x, 2, was, 9, 8, 7, 6);
                Due.due("a shorter one", x.sheet(2, form, 2), 2);
                itemsAre(x, 2, form, 0, 0);
                x.lay(2, form, 1, 5);
                Due.due("a longer one", x.sheet(2, was, 5), 5);
                itemsAre(x, 2, was, 0, 0, 0, 0, 0);
                Due.due("of that form", x.get(2, (was + 1) % 3, 0), LEAST);
                Due.due("the finding", x.count(8), 3);
            }
        }
    }

    private static void itemsAre(WarnLines x, int s, int form, int... items) {
        for (int i = 0; i < items.length; i++) {
            Due.due("item " + i + " of sheet " + s, x.get(s, form, i), items[i]);
        }
    }

    private static void loseBounds() {
        for (int s : new int[] {-1, 4, LEAST, MOST}) {
            Whole.refused("lose of " + s, x -> x.lose(s), BAD);
        }
        int[] had = {8, 8, 3, NULL};
        for (int s = 0; s < 4; s++) {
            Due.due("lose of " + s, Whole.make().lose(s), had[s]);
        }
        for (int s = 0; s < 4; s++) {
            WarnLines x = new WarnLines();
            for (int each = 0; each < 4; each++) {
                x.sheet(each, 1, 10 + each);
            }
            Due.due("lose of " + s + " of four", x.lose(s), 10 + s);
            for (int each = 0; each < 4; each++) {
                Due.due("lose of " + each + " behind that of " + s, x.lose(each), each == s ? NULL : 10 + each);
            }
        }
    }

    private static void loseOfALostSheet() {
        Whole.found("a lost sheet", x -> x.lose(3), 1);
        WarnLines x = Whole.make();
        x.lose(0);
        Due.due("lost again", x.lose(0), NULL);
        Due.due("the others stand", x.lose(1), 8);
        x.sheet(0, 2, 60);
        Due.due("the most items", x.lose(0), 60);
        x.sheet(0, 2, 0);
        Due.due("no items", x.lose(0), 0);
        Due.due("lost", x.lose(0), NULL);
    }

    private static void layBounds() {
        for (int n : new int[] {-1, 4, LEAST, MOST}) {
            Whole.refused("lay: s " + n, x -> x.lay(n, 0, 0, 1), BAD);
        }
        for (int n : new int[] {-1, 3, LEAST, MOST}) {
            Whole.refused("lay: form " + n, x -> x.lay(0, n, 0, 1), BAD);
        }
        for (int i = 0; i < 8; i++) {
            WarnLines x = Whole.make();
            Due.due("lay item " + i, x.lay(1, 1, i, 77), 1);
            for (int other = 0; other < 8; other++) {
                int was = new int[] {1, 2, 9, 20, 20, 9, 2, 1}[other];
                Due.due("then item " + other, x.get(1, 1, other), other == i ? 77 : was);
            }
        }
    }

    private static void layFindings() {
        for (int form = 0; form < 3; form++) {
            int as = form;
            Whole.found("lay on a lost one", x -> x.lay(3, as, 0, 1), 1);
            Whole.found("NULL goes ahead of INDEX", x -> x.lay(3, as, -1, 1), 1);
            for (int s = 0; s < 3; s++) {
                int to = s;
                if (s != form) {
                    Whole.found("lay as of another form", x -> x.lay(to, as, 0, 1), 3);
                    Whole.found("CAST goes ahead of INDEX", x -> x.lay(to, as, 60, 1), 3);
                }
            }
        }
        for (int i : new int[] {-1, 8, 59, 60, LEAST, MOST}) {
            Whole.found("lay item " + i, x -> x.lay(1, 1, i, 1), 2);
            Whole.refused("BAD goes ahead, item " + i, x -> x.lay(1, 3, i, 1), BAD);
        }
        Whole.refused("BAD goes ahead of NULL", x -> x.lay(3, 3, 0, 1), BAD);
        Due.due("CAST", Whole.make().lay(0, 2, 0, 1), CAST);
    }

    private static void layTheLowestBits() {
        int[][] due = {{127, 127, 127, 127}, {128, -128, 128, 128}, {-128, -128, -128, -128}, {-129, 127, -129, -129},
            {255, -1, 255, 255}, {256, 0, 256, 256}, {-1, -1, -1, -1}, {-256, 0, -256, -256},
            {32767, -1, 32767, 32767}, {32768, 0, -32768, 32768}, {-32768, 0, -32768, -32768},
            {-32769, -1, 32767, -32769}, {65535, -1, -1, 65535}, {65536, 0, 0, 65536}, {MOST, -1, -1, MOST},
            {LEAST, 0, 0, LEAST}, {LEAST + 1, 1, 1, LEAST + 1}, {MOST - 128, 127, -129, MOST - 128}};
        for (int[] each : due) {
            for (int form = 0; form < 3; form++) {
                WarnLines x = new WarnLines();
                x.sheet(3, form, 2);
                Due.due("lay " + each[0] + " as of form " + form, x.lay(3, form, 1, each[0]), 1);
                Due.due(each[0] + " of form " + form, x.get(3, form, 1), each[1 + form]);
                Due.due("the item ahead", x.get(3, form, 0), 0);
            }
        }
    }

    private static void getBounds() {
        for (int n : new int[] {-1, 4, LEAST, MOST}) {
            Whole.refused("get: s " + n, x -> x.get(n, 0, 0), LEAST);
        }
        for (int n : new int[] {-1, 3, LEAST, MOST}) {
            Whole.refused("get: form " + n, x -> x.get(0, n, 0), LEAST);
            Whole.refused("BAD goes ahead of NULL, form " + n, x -> x.get(3, n, 0), LEAST);
            Whole.refused("BAD goes ahead of INDEX, form " + n, x -> x.get(0, n, 8), LEAST);
        }
    }

    private static void foundByGet(String name, Whole.Call call, int number) {
        Whole.found(name, Whole::make, call, LEAST, number);
        Whole.found(name, Whole::afterNull, call, LEAST, number);
    }

    private static void getFindings() {
        for (int form = 0; form < 3; form++) {
            int as = form;
            foundByGet("get of a lost one", x -> x.get(3, as, 0), 1);
            foundByGet("NULL goes ahead of INDEX", x -> x.get(3, as, 60), 1);
            for (int s = 0; s < 3; s++) {
                int from = s;
                if (s != form) {
                    foundByGet("get as of another form", x -> x.get(from, as, 0), 3);
                    foundByGet("CAST goes ahead of INDEX", x -> x.get(from, as, -1), 3);
                }
            }
        }
        for (int i : new int[] {-1, 8, 59, 60, LEAST, MOST}) {
            foundByGet("get item " + i, x -> x.get(1, 1, i), 2);
        }
        WarnLines x = new WarnLines();
        x.sheet(0, 2, 1);
        x.lay(0, 2, 0, LEAST);
        Due.due("the least int that was laid", x.get(0, 2, 0), LEAST);
        Due.due("it is no finding", x.count(8), 0);
    }

    private static void copyBounds() {
        for (int n : new int[] {-1, 4, LEAST, MOST}) {
            Whole.refused("copy from " + n, x -> x.copy(n, 0, 0, 0, 0), BAD);
            Whole.refused("copy to " + n, x -> x.copy(0, 0, n, 0, 0), BAD);
            Whole.refused("BAD goes ahead of NULL, from " + n, x -> x.copy(n, 0, 3, 0, 0), BAD);
            Whole.refused("BAD goes ahead of NULL, to " + n, x -> x.copy(3, 0, n, 0, 0), BAD);
            Whole.refused("BAD goes ahead of INDEX", x -> x.copy(0, -1, n, 0, 0), BAD);
        }
        for (int s = 0; s < 4; s++) {
            for (int t = 0; t < 4; t++) {
                WarnLines x = new WarnLines();
                Whole.sheet(x, t, 1, 0, 0, 0);
                Whole.sheet(x, s, 1, 5, 6, 7);
                Due.due("from " + s + " to " + t, x.copy(s, 1, t, 0, 2), 1);
                itemsAre(x, t, 1, 6, 7, s == t ? 7 : 0);
            }
        }
    }

    private static void copyFindings() {
        Whole.found("from a lost one", x -> x.copy(3, 0, 0, 0, 1), 1);
        Whole.found("to a lost one", x -> x.copy(0, 0, 3, 0, 1), 1);
        Whole.found("from a lost one to itself", x -> x.copy(3, 0, 3, 0, 0), 1);
        Whole.found("NULL goes ahead of INDEX", x -> x.copy(0, -1, 3, 0, 1), 1);
        for (int s = 0; s < 3; s++) {
            for (int t = 0; t < 3; t++) {
                int from = s;
                int to = t;
                if (s != t) {
                    Whole.found("unlike forms", x -> x.copy(from, 0, to, 0, 1), 4);
                    Whole.found("unlike forms, no items", x -> x.copy(from, 0, to, 0, 0), 4);
                    Whole.found("STORE goes ahead of INDEX", x -> x.copy(from, 0, to, 0, 9), 4);
                    Whole.found("STORE goes ahead of INDEX below 0", x -> x.copy(from, 0, to, 0, -1), 4);
                }
            }
        }
        Due.due("STORE", Whole.make().copy(0, 0, 1, 0, 1), STORE);
    }

    /** Sheets of five and of three shorts; their finding is STORE. */
    private static WarnLines fiveAndThree() {
        WarnLines x = Whole.make();
        Whole.sheet(x, 0, 1, 1, 2, 3, 4, 5);
        Whole.sheet(x, 3, 1, 6, 7, 8);
        x.copy(0, 0, 2, 0, 1);
        return x;
    }

    private static void copyIndexes() {
        int[][] wrong = {{-1, 0, 1}, {0, -1, 1}, {0, 0, -1}, {LEAST, 0, 1}, {0, LEAST, 1}, {0, 0, LEAST},
            {5, 0, 1}, {3, 0, 3}, {0, 3, 1}, {0, 1, 3}, {0, 0, 4}, {0, 0, 60}, {0, 0, MOST}, {1, 0, MOST},
            {0, 1, MOST}, {MOST, 0, 1}, {0, MOST, 1}, {MOST, MOST, MOST}, {MOST, 0, MOST}, {6, 0, 0}, {0, 4, 0},
            {-1, 0, 0}, {0, -1, 0}, {MOST, 0, 0}, {0, MOST, 0}, {LEAST, LEAST, LEAST}, {1, 1, -1}};
        for (int[] each : wrong) {
            Whole.found("copy of " + each[2] + " from " + each[0] + " to " + each[1], EdgesOfSheetsTest::fiveAndThree,
                x -> x.copy(0, each[0], 3, each[1], each[2]), INDEX, 2);
        }
        Whole.found("the other way", EdgesOfSheetsTest::fiveAndThree, x -> x.copy(3, 0, 0, 0, 4), INDEX, 2);
        Whole.found("the other way, too far", EdgesOfSheetsTest::fiveAndThree, x -> x.copy(3, 1, 0, 0, 3), INDEX, 2);
        Whole.found("onto itself, too far", EdgesOfSheetsTest::fiveAndThree, x -> x.copy(0, 0, 0, 1, 5), INDEX, 2);
    }

    private static void copyAtTheEnds() {
        WarnLines x = fiveAndThree();
        Due.due("the last of five", x.copy(0, 4, 3, 0, 1), 1);
        itemsAre(x, 3, 1, 5, 7, 8);
        Due.due("to the last of three", x.copy(0, 0, 3, 2, 1), 1);
        itemsAre(x, 3, 1, 5, 7, 1);
        Due.due("as many as three", x.copy(0, 2, 3, 0, 3), 1);
        itemsAre(x, 3, 1, 3, 4, 5);
        Due.due("none behind the last ones", x.copy(0, 5, 3, 3, 0), 1);
        Due.due("none at all", x.copy(0, 0, 3, 0, 0), 1);
        itemsAre(x, 3, 1, 3, 4, 5);
        itemsAre(x, 0, 1, 1, 2, 3, 4, 5);
        Due.due("no finding since STORE", x.count(8), 4);
        WarnLines empty = new WarnLines();
        empty.sheet(0, 0, 0);
        empty.sheet(1, 0, 0);
        Due.due("none of none", empty.copy(0, 0, 1, 0, 0), 1);
        Due.due("one of none", empty.copy(0, 0, 1, 0, 1), INDEX);
        Due.due("none behind none", empty.copy(0, 1, 1, 0, 0), INDEX);
        WarnLines most = new WarnLines();
        most.sheet(0, 2, 60);
        most.sheet(1, 2, 60);
        most.lay(0, 2, 59, MOST);
        Due.due("all sixty", most.copy(0, 0, 1, 0, 60), 1);
        Due.due("the last one", most.get(1, 2, 59), MOST);
        Due.due("sixty-one", most.copy(0, 0, 1, 0, 61), INDEX);
    }

    private static void copyOntoItself() {
        WarnLines x = fiveAndThree();
        Due.due("one farther", x.copy(0, 0, 0, 1, 4), 1);
        itemsAre(x, 0, 1, 1, 1, 2, 3, 4);
        WarnLines back = fiveAndThree();
        Due.due("one back", back.copy(0, 1, 0, 0, 4), 1);
        itemsAre(back, 0, 1, 2, 3, 4, 5, 5);
        WarnLines place = fiveAndThree();
        Due.due("where they are", place.copy(0, 0, 0, 0, 5), 1);
        itemsAre(place, 0, 1, 1, 2, 3, 4, 5);
        WarnLines overlap = fiveAndThree();
        Due.due("three over one", overlap.copy(0, 0, 0, 2, 3), 1);
        itemsAre(overlap, 0, 1, 1, 2, 1, 2, 3);
    }

    private static void writeBounds() {
        for (int s : new int[] {-1, 4, LEAST, MOST}) {
            Whole.refused("write to " + s, x -> x.write(s), BAD);
        }
        int[] many = {5, 5, 3, NULL};
        for (int s = 0; s < 4; s++) {
            Due.due("write to " + s, Whole.make().write(s), many[s]);
        }
    }

    private static void writeRefusals() {
        Whole.found("a lost sheet", x -> x.write(3), 1);
        Whole.found("NULL goes ahead of NOT", Whole::noMiddle, x -> x.write(3), NULL, 1);
        Whole.refused("BAD goes ahead of NOT", Whole::noMiddle, x -> x.write(4), BAD);
        for (int s = 0; s < 3; s++) {
            int to = s;
            Whole.refused("no middle, to " + s, Whole::noMiddle, x -> x.write(to), NOT);
        }
        WarnLines x = new WarnLines();
        x.sheet(0, 0, 3);
        Due.due("no groups", x.write(0), NOT);
        x.group();
        Due.due("a blank one alone", x.write(0), NOT);
    }

    private static void writeAsManyAsThereAre() {
        for (int items = 0; items <= 8; items++) {
            WarnLines x = Whole.make();
            x.sheet(3, 2, items);
            for (int i = 0; i < items; i++) {
                x.lay(3, 2, i, 99);
            }
            Due.due("to " + items + " items", x.write(3), Math.min(items, 5));
            for (int i = 0; i < items; i++) {
                int due = i == 2 ? NONE : i < 5 ? x.zone(i, 2) : 99;
                Due.due("item " + i + " of " + items, x.get(3, 2, i), due);
            }
        }
        WarnLines twenty = Whole.twentyGroups();
        twenty.sheet(0, 1, 60);
        twenty.lay(0, 1, 20, 99);
        Due.due("twenty groups", twenty.write(0), 20);
        Due.due("the last one", twenty.get(0, 1, 19), twenty.zone(19, 2));
        Due.due("behind it", twenty.get(0, 1, 20), 99);
    }

    private static void writeOfClasses() {
        int[] means = {100, 99, 89, 79, 69, 101, 111, 121, 131};
        int[] classes = {4, 3, 2, 1, 0, 4, 5, 6, 7};
        for (int form = 0; form < 3; form++) {
            WarnLines x = new WarnLines();
            Due.group(x, 85, 115);
            x.set(1, 0);
            x.set(2, 100);
            for (int mean : means) {
                Due.group(x, mean);
            }
            Due.group(x);
            x.sheet(3, form, 11);
            Due.due("all", x.write(3), 11);
            for (int g = 0; g < means.length; g++) {
                Due.due("class of " + means[g] + " in form " + form, x.get(3, form, g + 1), classes[g]);
            }
            Due.due("-1 of a blank one in form " + form, x.get(3, form, 10), -1);
            Due.due("no finding", x.count(8), 0);
        }
    }

    private static void countBounds() {
        Whole.bounds("count", 0, 8, BAD, WarnLines::count);
    }

    private static void countOfEach() {
        int[] due = {5, 1, 9, 9, 3, 13, 13, 999, 5};
        for (int what = 0; what < due.length; what++) {
            Due.due("count " + what, Whole.make().count(what), due[what]);
        }
        Due.due("groups, full", Whole.twentyGroups().count(0), 20);
        Due.due("blank ones, none", Whole.twentyGroups().count(1), 0);
        Due.due("tellings, full", Whole.hundredTellings().count(2), 100);
        Due.due("causes, full", Whole.twelveCauses().count(4), 12);
        Due.due("bytes, full", Whole.fiftyBytes().count(5), 50);
        WarnLines x = new WarnLines();
        for (int g = 0; g < 20; g++) {
            Due.group(x, 1, 2, 3, 4, 5);
        }
        Due.due("values, as many as there can be", x.count(3), 100);
        x.set(3, 0);
        Due.due("AS OF, the least", x.count(7), 0);
        Due.due("values known at 0", x.count(3), 100);
        WarnLines late = new WarnLines();
        late.group();
        late.told(0, 0, 5, 1);
        late.set(3, 0);
        Due.due("a telling behind AS OF counts", late.count(2), 1);
        Due.due("its value is not known", late.count(3), 0);
        Due.due("its group is blank", late.count(1), 1);
    }

    private static BigInteger with(BigInteger h, long... all) {
        BigInteger more = h;
        for (long each : all) {
            more = more.multiply(BigInteger.valueOf(31)).add(BigInteger.valueOf(each));
        }
        return more;
    }

    /** In the order told, out of what each call answers; the lowest 64 bits of it. */
    private static long digestOf(WarnLines x) {
        BigInteger h = BigInteger.valueOf(17);
        for (int what = 0; what <= 7; what++) {
            h = with(h, x.count(what));
        }
        h = with(h, x.fault(0), x.fault(1), x.base(0, 0), x.base(0, 1), x.base(1, 0), x.base(1, 1), x.leftOut());
        for (int g = 0; g < x.count(0); g++) {
            h = with(h, x.zone(g, 2), x.warns(0, g), x.warns(1, g), x.smoothed(g));
        }
        for (int text = 0; text < 2; text++) {
            h = with(h, x.warned(text, 0), x.warned(text, 1));
            h = with(h, x.soon(text, 4, 1, false, 0), x.soon(text, 4, 1, false, 1), x.blamed(text));
        }
        return with(h, x.over(0), x.over(1), x.over(2), x.over(3)).longValue();
    }

    /** With a shift of 1 half are far: an eighth warns at the fourth just, a half up to it. */
    private static WarnLines halfAreFar() {
        WarnLines x = Whole.make();
        Whole.sheet(x, 0, 0, 0, 0, 0, 32, 0, 0, 32, 0);
        x.odds(0);
        Due.write(x, 1, "z2/2>3");
        Due.due("just", x.soon(1, 4, 1, true, 1), 8);
        Due.due("up to", x.soon(1, 4, 1, false, 1), 2);
        return x;
    }

    private static void digestOfAll() {
        Whole.Maker[] makers = {WarnLines::new, Whole::make, Whole::afterNull, Whole::twentyGroups,
            Whole::hundredTellings, Whole::fiftyBytes, Whole::twelveCauses, Whole::noMiddle, Whole::withFaults,
            EdgesOfSheetsTest::fiveAndThree, EdgesOfSheetsTest::halfAreFar};
        for (int i = 0; i < makers.length; i++) {
            WarnLines x = makers[i].make();
            Due.due("digest of object " + i, x.digest(), digestOf(x));
            Due.due("again", x.digest(), digestOf(x));
        }
        Due.due("findings are not in it", Whole.afterNull().digest(), Whole.make().digest());
        WarnLines x = Whole.make();
        x.sheet(0, 2, 60);
        x.lay(0, 2, 0, MOST);
        Due.due("sheets are not in it", x.digest(), Whole.make().digest());
        x.set(8, 99);
        Due.due("costs are not in it", x.digest(), Whole.make().digest());
    }
}

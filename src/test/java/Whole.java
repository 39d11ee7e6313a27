import java.util.ArrayList;
import java.util.List;

/**
 * Objects with something in each of their parts, and all that can be asked of one: a call that is
 * refused must leave its object like a twin that was made alike and not called.
 */
final class Whole {
    /** The TIME that was told last in all that is made here. */
    static final int TIME = 7;

    interface Call {
        long on(WarnLines x);
    }

    interface Numbered {
        long on(WarnLines x, int n);
    }

    interface Maker {
        WarnLines make();
    }

    private Whole() {
    }

    /** With the finding SIZE. */
    static WarnLines make() {
        WarnLines x = beforeFindings();
        x.sheet(3, 0, -1);
        return x;
    }

    /** With the finding NULL. */
    static WarnLines afterNull() {
        WarnLines x = beforeFindings();
        x.lose(3);
        return x;
    }

    /** Five groups, the third of them blank; sheet 3 is lost. */
    static WarnLines beforeFindings() {
        WarnLines x = new WarnLines();
        Due.group(x, 10, 14);
        Due.group(x, 20);
        Due.group(x);
        Due.group(x, 15, 18, 21);
        Due.group(x, 11);
        x.told(0, 4, 30, 5);
        x.told(1, 1, 31, TIME);
        Due.write(x, 0, "z1/1>0;z2/3>1");
        Due.write(x, 1, "z2/2>0;z1/1>2");
        x.cause(3, 0);
        x.cause(2, 1);
        x.cause(4, 1);
        sheet(x, 0, 0, 64, 0, 0, 0, 0, 0, 0, 0);
        sheet(x, 1, 1, 1, 2, 9, 20, 20, 9, 2, 1);
        sheet(x, 2, 2, 5, 6, 7);
        x.odds(1);
        for (int what = 4; what < 10; what++) {
            x.set(what, what == 7 ? 3 : what);
        }
        return x;
    }

    static void sheet(WarnLines x, int s, int form, int... items) {
        x.sheet(s, form, items.length);
        for (int i = 0; i < items.length; i++) {
            x.lay(s, form, i, items[i]);
        }
    }

    static WarnLines twentyGroups() {
        WarnLines x = make();
        for (int g = 5; g < 20; g++) {
            x.group();
            x.told(g, g % 5, 10 + g % 3, TIME);
        }
        x.told(2, 1, 9, TIME);
        return x;
    }

    static WarnLines hundredTellings() {
        WarnLines x = make();
        for (int n = x.count(2); n < 100; n++) {
            x.told(n % 5, 3, n, TIME);
        }
        return x;
    }

    static WarnLines fiftyBytes() {
        WarnLines x = make();
        Due.write(x, 0, "z1/1>0;z2/3>1;z3/4>2;z4/5>3;z5/5>0;z2/2>2;r2;a3;  ");
        return x;
    }

    static WarnLines twelveCauses() {
        WarnLines x = make();
        for (int n = x.count(4); n < 12; n++) {
            x.cause(n % 6, n);
        }
        return x;
    }

    static WarnLines noMiddle() {
        WarnLines x = make();
        x.set(0, 5);
        return x;
    }

    static WarnLines withFaults() {
        WarnLines x = make();
        x.type(0, ';');
        x.type(1, 'x');
        return x;
    }

    /**
     * All that can be asked. First what no refusal is met at, so that a refused call that changes
     * something cannot hide behind its own like, met here on both twins; last what changes most.
     */
    static List<String> stateOf(WarnLines x) {
        List<String> all = new ArrayList<>();
        for (int what = 0; what <= 8; what++) {
            all.add("count " + what + " " + x.count(what));
        }
        for (int what = 0; what < 10; what++) {
            int was = x.set(what, 1);
            x.set(what, was);
            all.add("setting " + what + " " + was);
        }
        for (int g = 0; g < x.count(0); g++) {
            for (int piece = 0; piece < 5; piece++) {
                all.add("value " + g + " " + piece + " " + x.value(g, piece));
            }
        }
        for (int c = 0; c < 8; c++) {
            all.add("odds " + c + " " + x.oddsOf(c));
        }
        for (int s = 0; s < 4; s++) {
            all.add("sheet " + s + " is there, or lost " + x.copy(s, 0, s, 0, 0));
        }
        items(x, all);
        for (int s = 0; s < 4; s++) {
            all.add("items of sheet " + s + " " + x.lose(s));
        }
        all.add("digest " + x.digest());
        for (int text = 0; text < 2; text++) {
            all.add("chance " + text + " " + x.warned(text, 2));
        }
        for (int what = 0; what < 3; what++) {
            all.add("cheaper " + what + " " + x.cheaper(2, 1, what));
        }
        all.add("a time that is too early " + x.told(0, 0, 1, TIME - 1));
        all.add("the latest time " + x.told(0, 0, 1, TIME));
        for (int text = 0; text < 2; text++) {
            all.add("bytes of text " + text + " " + x.wipe(text));
        }
        return all;
    }

    private static void items(WarnLines x, List<String> all) {
        for (int s = 0; s < 4; s++) {
            for (int form = 0; form < 3; form++) {
                for (int i : new int[] {0, 1, 2, 3, 7}) {
                    all.add("item " + s + " " + form + " " + i + " " + x.get(s, form, i));
                }
            }
        }
    }

    private static void same(String name, List<String> got, List<String> want, boolean findingToo) {
        Due.due(name + ": answers behind it", got.size(), want.size());
        for (int i = 0; i < got.size() && i < want.size(); i++) {
            boolean isFinding = want.get(i).startsWith("count 8 ");
            if (findingToo || !isFinding) {
                Due.due(name + ": behind it " + want.get(i) + " (is " + got.get(i) + "), unlike",
                    got.get(i).equals(want.get(i)) ? 0 : 1, 0);
            }
        }
    }

    /** A refusal that is no finding: it changes nothing at all. */
    static void refused(String name, Maker maker, Call call, long want) {
        WarnLines x = maker.make();
        Due.due(name, call.on(x), want);
        same(name, stateOf(x), stateOf(maker.make()), true);
    }

    static void refused(String name, Call call, long want) {
        refused(name, Whole::make, call, want);
    }

    /** A finding changes nothing but count() 8, whatever was found before. */
    static void found(String name, Maker maker, Call call, long want, int number) {
        WarnLines x = maker.make();
        Due.due(name, call.on(x), want);
        Due.due(name + ": the finding", x.count(8), number);
        same(name, stateOf(x), stateOf(maker.make()), false);
    }

    static void found(String name, Call call, int number) {
        found(name, Whole::make, call, -10 - number, number);
        found(name, Whole::afterNull, call, -10 - number, number);
    }

    /** The least and the most are taken; one beyond either, and the ends of all ints, are not. */
    static void bounds(String name, int least, int most, long bad, Numbered call) {
        for (int n : new int[] {least, most}) {
            Due.due(name + " " + n + " is refused", call.on(make(), n) == bad ? 1 : 0, 0);
        }
        for (int n : new int[] {least - 1, most + 1, Integer.MIN_VALUE, Integer.MAX_VALUE}) {
            refused(name + " " + n, x -> call.on(x, n), bad);
        }
    }
}

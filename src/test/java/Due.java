/** Holds answers against those that are due, and ends a test with exit code 1 if one was not. */
final class Due {
    static final long LONG_BAD = Long.MIN_VALUE + 2, LONG_NOT = Long.MIN_VALUE + 3;
    private static int asked = 0;
    private static int wrong = 0;

    private Due() {
    }

    static void due(String call, long got, long want) {
        asked++;
        if (got != want) {
            wrong++;
            System.out.println(call + " answered " + got + ", due is " + want);
        }
    }

    /** Types a text, after wiping it. */
    static void write(WarnLines x, int text, String rules) {
        x.wipe(text);
        for (int i = 0; i < rules.length(); i++) {
            due("type of '" + rules + "' at " + i, x.type(text, rules.charAt(i)), i + 1);
        }
    }

    /** A group more, with values of pieces 0 on, all told at time 0; NONE is passed over. */
    static int group(WarnLines x, int... values) {
        int g = x.group();
        for (int piece = 0; piece < values.length; piece++) {
            if (values[piece] != WarnLines.NONE && x.told(g, piece, values[piece], 0) < 0) {
                due("told of group " + g, -1, 0);
            }
        }
        return g;
    }

    /** An object with a group of one value for each mean. */
    static WarnLines row(int... means) {
        WarnLines x = new WarnLines();
        for (int mean : means) {
            group(x, mean);
        }
        return x;
    }

    static void close() {
        System.out.println(asked + " answers asked, " + wrong + " not as due");
        if (wrong != 0 || asked == 0) {
            System.exit(1);
        }
    }
}

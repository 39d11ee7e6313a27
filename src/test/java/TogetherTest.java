/** Sentences of the document that meet: each is held where another one has changed what it is about. */
public final class TogetherTest {
    private static final int NONE = WarnLines.NONE;

    public static void main(String[] args) {
        eighteenRounds();
        roundsOfABaseThatBeginsLater();
        overWithABaseOfSeveral();
        nearestByNumbersWithBlankOnes();
        chanceOfEitherText();
        chanceCountsGroupsAndNotRules();
        twoRulesOfOneKind();
        turnsBesideBlankAndLikeOnes();
        theLatestFindingStays();
        Due.close();
    }

    /** Two alike, then on either side ever farther ones with ever more span: the last is always the only one beyond. */
    private static final int[][] EVER_FARTHER = {
        {499, 501}, {499, 501}, {493, 493}, {505, 511}, {482, 490}, {510, 522}, {471, 485}, {515, 533}, {522, 538},
        {461, 481}, {453, 475}, {524, 552}, {441, 471}, {530, 562}, {431, 465}, {535, 573}, {420, 460}, {540, 584},
        {409, 455}, {546, 594}};

    private static void eighteenRounds() {
        WarnLines x = new WarnLines();
        x.set(2, 300);
        for (int many = 1; many <= EVER_FARTHER.length; many++) {
            Due.group(x, EVER_FARTHER[many - 1]);
            Due.due("of " + many + " all but two are left out", x.leftOut(), (1 << many) - 1 & ~3);
        }
        Due.due("the middle of two", x.base(0, 0), 500);
        Due.due("the step of two", x.base(1, 0), 2);
        x.set(2, 999);
        Due.due("none is beyond lines as far as these", x.leftOut(), 0);
        x.set(2, 300);
        // The other way round the same ones are left out.
        WarnLines back = new WarnLines();
        for (int g = 19; g >= 0; g--) {
            Due.group(back, EVER_FARTHER[g]);
        }
        back.set(2, 300);
        Due.due("from the other end", back.leftOut(), (1 << 18) - 1);
    }

    private static void roundsOfABaseThatBeginsLater() {
        WarnLines x = new WarnLines();
        int[] means = {500, 100, 300, 100, 100, 0, 100, 100, 100, 130, 200, 100, 900};
        for (int mean : means) {
            Due.group(x, mean, mean + 10);
        }
        x.told(5, 0, -1, 0);
        x.told(5, 1, -1, 0);
        x.set(0, 3);
        x.set(1, 11);
        x.set(2, 200);
        // Of 3 to 11 but the blank 5, the third line 20 off (5 more each): 200 is 335/4 above 465/4, then 130 is
        // 180/7 above 730/7.
        Due.due("two rounds, by the numbers of groups", x.leftOut(), 1 << 9 | 1 << 10);
        Due.due("the middle, above", x.base(0, 0), 105);
        Due.due("those ahead of the base have lines too", x.zone(0, 2), 7);
        Due.due("those that are left out too", x.zone(9, 2), 7);
        x.set(1, 9);
        Due.due("one round", x.leftOut(), 1 << 9);
        x.set(0, 12);
        x.set(1, 12);
        Due.due("a base of one", x.leftOut(), 0);
        Due.due("its middle", x.base(0, 0), 905);
    }

    private static void overWithABaseOfSeveral() {
        WarnLines x = Due.row(100, 100, 100, 105, 106, 88);
        x.set(1, 2);
        int[] over = {3, 3, 3, 3, 4, 4, 4, 4, 4, 5, 5, NONE};
        for (int limit = 0; limit < over.length; limit++) {
            x.set(5, limit);
            Due.due("more than " + limit, x.over(0), over[limit]);
            Due.due("side, more than " + limit, x.over(1), over[limit] == NONE ? NONE : over[limit] == 5 ? 2 : 1);
            Due.due("began, more than " + limit, x.over(2), over[limit] == 4 ? 3 : over[limit]);
        }
        // Of 0 to 3 the middle is 405/4: ups are 0, 0, 0, 11/4, 13/2.
        x.set(1, 3);
        x.set(2, 999);
        Due.due("without span all but one would be left out", x.leftOut(), 0);
        x.set(5, 6);
        Due.due("13/2 is more than 6", x.over(0), 4);
        Due.due("above", x.sum(4, 1, 0), 13);
        Due.due("below", x.sum(4, 1, 1), 2);
        x.set(5, 7);
        Due.due("down 49/4 is more than 7", x.over(0), 5);
        Due.due("down, above", x.sum(5, -1, 0), 49);
        Due.due("down, below", x.sum(5, -1, 1), 4);
        x.set(5, 12);
        Due.due("and more than 12", x.over(0), 5);
        x.set(5, 13);
        Due.due("but not more than 13", x.over(0), NONE);
    }

    private static void nearestByNumbersWithBlankOnes() {
        WarnLines x = Due.row(100, 1, 2, 100, 120);
        x.set(1, 0);
        x.told(1, 0, -1, 0);
        x.told(2, 0, -1, 0);
        Due.due("it began at", x.over(2), 4);
        x.cause(2, 2);
        Due.due("at a blank one's number", x.over(3), 2);
        x.cause(1, 3);
        Due.due("one ahead", x.over(3), 1);
        x.cause(5, 4);
        Due.due("at it", x.over(3), 5);
        Due.write(x, 0, "z1/1>3");
        x.set(6, 0);
        Due.due("blamed by the same numbers", x.blamed(0), 5);
    }

    private static void chanceOfEitherText() {
        WarnLines x = Due.row(1, 2, 3);
        Due.write(x, 0, "r3");
        Due.write(x, 1, "r2");
        Due.due("a third of the orders rise or fall", x.warned(0, 2), 333333);
        Due.due("in all of them two rise or fall", x.warned(1, 2), 1000000);
        Due.write(x, 0, "r1");
        Due.due("a fault of the other text is none of this one", x.warned(1, 2), 1000000);
        Due.write(x, 0, "");
        Due.write(x, 1, "r3");
        Due.due("no rules", x.warned(0, 2), 1000000);
        Due.due("the other text", x.warned(1, 2), 333333);
    }

    private static void chanceCountsGroupsAndNotRules() {
        // Two groups warn in 2, 1, 2 alone; in 1, 2, 2 and 2, 2, 1 one does, by three rules.
        WarnLines x = Due.row(2, 1, 2);
        Due.write(x, 0, "r2;r2;r2");
        Due.due("two warn", x.warned(0, 1), 2);
        Due.due("in two of six orders", x.warned(0, 2), 333333);
        Due.due("by three rules", x.warns(0, 2), 7);
    }

    private static void twoRulesOfOneKind() {
        WarnLines x = Due.row(1, 2, 3, 4, 3, 4, 3, 5, 6);
        String[] rules = {"r2;r4", "r4;r2", "a3;a5", "a5;a3", "r3;a4", "a4;r3", "r9;a9;r3", "a3;r9;a9"};
        int[] first = {1, 1, 4, 4, 2, 2, 2, 4};
        int[] many = {8, 8, 4, 4, 6, 6, 3, 4};
        for (int i = 0; i < rules.length; i++) {
            Due.write(x, 0, rules[i]);
            Due.due("first by " + rules[i], x.warned(0, 0), first[i]);
            Due.due("how many by " + rules[i], x.warned(0, 1), many[i]);
        }
    }

    private static void warnedAre(WarnLines x, String rules, int first, int many) {
        Due.write(x, 0, rules);
        Due.due("first by " + rules, x.warned(0, 0), first);
        Due.due("how many by " + rules, x.warned(0, 1), many);
    }

    private static void turnsBesideBlankAndLikeOnes() {
        WarnLines x = Due.row(1, 5, 9, 5, 5, 9, 5, 9);
        x.told(0, 0, -1, 0);
        warnedAre(x, "a3", 3, 3);
        warnedAre(x, "a4", 7, 1);
        warnedAre(x, "a5", NONE, 0);
        warnedAre(x, "r2", 2, 5);
        // The like ones are one: 5, 9, 5, 9, 5, 9.
        x.told(3, 0, -1, 0);
        warnedAre(x, "a3", 4, 4);
        warnedAre(x, "a6", 7, 1);
        warnedAre(x, "r2", 2, 5);
        warnedAre(x, "r3", NONE, 0);
        // Others are alike: 5, 9, 9, 5, 9, 5, 9.
        x.told(3, 0, 9, 0);
        warnedAre(x, "a3", 5, 3);
        warnedAre(x, "a4", 6, 2);
        warnedAre(x, "a5", 7, 1);
        warnedAre(x, "a6", NONE, 0);
        // The blank one again, and none alike: 1, 5, 9, 7, 5, 9, 5, 9.
        x.told(0, 0, 1, 0);
        x.told(3, 0, 7, 0);
        warnedAre(x, "a3", 3, 4);
        warnedAre(x, "a4", 6, 2);
        warnedAre(x, "r3", 2, 2);
        warnedAre(x, "r4", NONE, 0);
    }

    private static void theLatestFindingStays() {
        WarnLines x = new WarnLines();
        x.sheet(0, 2, -1);
        x.sheet(0, 2, 8);
        x.lay(0, 2, 0, 64);
        x.get(0, 2, 0);
        x.odds(0);
        x.copy(0, 0, 0, 1, 3);
        x.group();
        x.told(0, 0, 5, 0);
        x.write(0);
        x.read(0, 0, 0);
        x.lose(0);
        x.sheet(1, 0, 0);
        x.digest();
        Due.due("calls that answer leave it", x.count(8), 5);
        x.lay(1, 0, 0, 0);
        Due.due("but the next finding", x.count(8), 2);
    }
}

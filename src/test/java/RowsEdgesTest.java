/** Part 3 of 'Terms' and promises 15 to 17, sentence by sentence: rows, unions, piles. */
public final class RowsEdgesTest {
    private static final int OUTSIDE = Given.OUTSIDE, NONE = Given.NONE;

    private static final Due due = new Due();

    private RowsEdgesTest() {
    }

    public static void main(String[] args) {
        rowOfNobody();
        rowOfFew();
        rowOfAll();
        rowFirst();
        rowNow();
        rowRefused();
        mostByUnions();
        mostOwnTogether();
        mostLeftOver();
        mostOfNobody();
        mostHaveSome();
        mostSets();
        mostNow();
        pileWeighs();
        pileBears();
        pileOfAllAbove();
        pileLeastAsBits();
        pileOfNobody();
        pileOfAll();
        pileNow();
        pileRefused();
        due.end("RowsEdgesTest");
    }

    private static void row(HassockSee see, int borders, int first) {
        due.is("row(0)", see.row(0), borders);
        due.is("row(1)", see.row(1), first);
    }

    private static void rowOfNobody() {
        due.of("(NONE: nobody is there)");
        HassockSee see = Given.only(0);
        row(see, 0, NONE);
        see.hassock(9, 1, 255);
        row(see, 0, 9);
        see.gone(9);
        row(see, 0, NONE);
        see.hassock(0, 1, 255);
        see.hassock(1, 1, 0);
        row(see, 8, 0);
        see.gone(0);
        see.gone(1);
        row(see, 0, NONE);
    }

    private static void rowOfFew() {
        due.of("ROW: in which order those that are there should stand, so that BORDERS are least: how much these are");
        HassockSee see = Given.only(0b1000000010);
        see.hassock(0, 50, 255);
        see.gone(0);
        row(see, 0, 1);
        see.hassock(9, 50, 255);
        row(see, 8, 1);
        see.gone(1);
        row(see, 0, 9);
        see.hassock(4, 50, 0b11110000);
        see.hassock(5, 50, 0b00001111);
        row(see, 8, 4);
        see.hassock(6, 50, 0);
        row(see, 12, 4);
    }

    private static void rowOfAll() {
        due.of("so that BORDERS are least: how much these are");
        HassockSee see = new HassockSee();
        row(see, 0, 0);
        for (int h = 0; h < 10; h++) {
            see.hassock(h, 50, h % 2 == 0 ? 255 : 0);
        }
        due.is("borders as they stand", see.borders(), 72);
        row(see, 8, 0);
        // A line from none to all, its end twice: D and E have all, F has none.
        for (int h = 0; h < 10; h++) {
            see.hassock(h, 50, (1 << Math.min(8, (h + 5) % 10)) - 1);
        }
        row(see, 8, 3);
    }

    private static void rowFirst() {
        due.of("which should stand first, the least by which they can be so");
        HassockSee see = Given.only(0b111);
        see.hassock(0, 50, 1);
        see.hassock(1, 50, 3);
        see.hassock(2, 50, 0);
        row(see, 2, 1);
        see.swap(0, 9);
        see.swap(1, 8);
        row(see, 2, 1);
        see.hassock(0, 50, 3);
        row(see, 2, 0);
        see.hassock(0, 50, 0);
        row(see, 2, 0);
        see.hassock(1, 50, 0);
        see.hassock(2, 50, 1);
        row(see, 1, 0);
    }

    private static void rowNow() {
        due.of("(As things are now.)");
        HassockSee see = Given.only(0b11);
        due.says(see, "A*0A*1B$x");
        row(see, 0, 0);
        see.wipe();
        due.says(see, "B*0B*1");
        row(see, 0, 0);
        see.done();
        row(see, 2, 0);
    }

    private static void rowRefused() {
        due.of("ROW: how much (what = 0), which first (1; NONE). OUTSIDE.");
        HassockSee see = new HassockSee();
        HassockSee none = Given.only(0);
        for (int what : Given.outside(0, 1)) {
            due.is("row(" + what + ")", see.row(what), OUTSIDE);
            due.is("row(" + what + ") of nobody", none.row(what), OUTSIDE);
        }
    }

    private static HassockSee ofPatterns(int... patterns) {
        HassockSee see = Given.only(0);
        for (int h = 0; h < patterns.length && h < 10; h++) {
            see.hassock(h, 50, patterns[h]);
        }
        return see;
    }

    private static void most(HassockSee see, int set, int most, int some) {
        due.is("most(" + set + ", 0)", see.most(set, 0), most);
        due.is("most(" + set + ", 1)", see.most(set, 1), some);
    }

    private static void mostByUnions() {
        due.of("MOST: by unions alone the most of them that have all STITCHES of a set");
        most(ofPatterns(1, 2, 1, 2, 1, 2, 1, 2, 1, 2), 3, 5, 10);
        most(ofPatterns(3, 3, 3, 3, 3, 3, 3, 3, 3, 3), 3, 10, 10);
        most(ofPatterns(1, 1, 1, 1, 1, 1, 1, 1, 1, 1), 3, 0, 10);
        most(ofPatterns(1, 1, 1, 1, 1, 1, 1, 1, 1, 2), 3, 1, 10);
        most(ofPatterns(1, 2, 4, 8, 16, 32, 64, 128), 255, 1, 8);
        most(ofPatterns(1, 2, 4, 8, 16, 32, 64), 255, 0, 7);
        most(ofPatterns(15, 240, 240, 15, 85, 170), 255, 3, 6);
        most(ofPatterns(255), 255, 1, 1);
        most(ofPatterns(254), 255, 0, 1);
    }

    private static void mostOwnTogether() {
        due.of("(each union's, all of its own together");
        most(ofPatterns(1, 2, 4, 6, 5), 7, 2, 5);
        most(ofPatterns(3, 6, 5), 7, 1, 3);
        most(ofPatterns(3, 6, 5, 3), 7, 2, 4);
        most(ofPatterns(1, 2, 4, 1, 2, 4, 1, 2, 4), 7, 3, 9);
        most(ofPatterns(7, 1, 2, 4), 7, 2, 4);
        most(ofPatterns(129, 66, 36, 24), 255, 1, 4);
        for (int stitch = 0; stitch <= 7; stitch++) {
            int without = 255 - (1 << stitch);
            most(ofPatterns(without, without, without), 255, 0, 3);
            most(ofPatterns(without, without, 255 - without), 255, 1, 3);
        }
    }

    private static void mostLeftOver() {
        due.of("some may be left over): how many");
        most(ofPatterns(1, 1, 2, 0, 128), 3, 1, 3);
        most(ofPatterns(0, 0, 0), 1, 0, 0);
        most(ofPatterns(0, 255, 0), 128, 1, 1);
        most(ofPatterns(7, 7, 1), 7, 2, 3);
    }

    private static void mostOfNobody() {
        due.of("the most of them that have all STITCHES of a set");
        most(Given.only(0), 1, 0, 0);
        most(Given.only(0), 255, 0, 0);
        HassockSee see = ofPatterns(3, 1, 2);
        see.gone(0);
        most(see, 3, 1, 2);
        see.gone(1);
        most(see, 3, 0, 1);
        see.gone(2);
        most(see, 3, 0, 0);
    }

    private static void mostHaveSome() {
        due.of("how many of those there are have some of these STITCHES");
        HassockSee see = ofPatterns(0, 1, 2, 4, 8, 128, 255);
        due.is("of none but 1", see.most(1, 1), 2);
        due.is("of 1 and 2", see.most(3, 1), 3);
        due.is("of 128", see.most(128, 1), 2);
        due.is("of all", see.most(255, 1), 6);
        due.is("of 64", see.most(64, 1), 1);
        see.gone(6);
        due.is("of 64, without that one", see.most(64, 1), 0);
    }

    private static void mostSets() {
        due.of("OUTSIDE: the set 1 to 255, what.");
        HassockSee see = ofPatterns(255, 1);
        most(see, 1, 2, 2);
        most(see, 255, 1, 2);
        for (int set : Given.outside(1, 255)) {
            due.is("most(" + set + ", 0)", see.most(set, 0), OUTSIDE);
            due.is("most(" + set + ", 1)", see.most(set, 1), OUTSIDE);
        }
        for (int what : Given.outside(0, 1)) {
            due.is("most(1, " + what + ")", see.most(1, what), OUTSIDE);
            due.is("most(0, " + what + ")", see.most(0, what), OUTSIDE);
        }
    }

    private static void mostNow() {
        due.of("(As things are now.)");
        HassockSee see = ofPatterns(1, 2);
        due.says(see, "A&B");
        most(see, 3, 1, 2);
        see.done();
        most(see, 3, 1, 1);
        due.is("no union is made by asking", see.told(1), 1);
    }

    private static void pile(HassockSee see, int most, int which) {
        due.is("pile(0)", see.pile(0), most);
        due.is("pile(1)", see.pile(1), which);
    }

    /** A stands on B, if B bears it: A bears nothing. */
    private static HassockSee aboveOn(int stitchesAbove, int woolBelow) {
        HassockSee see = Given.only(0);
        see.hassock(0, 1, stitchesAbove);
        see.hassock(1, woolBelow, 0);
        return see;
    }

    private static void pileWeighs() {
        due.of("each WEIGHS 1 more than it has STITCHES");
        pile(aboveOn(0, 5), 2, 3);
        pile(aboveOn(1, 5), 1, 1);
        pile(aboveOn(128, 10), 2, 3);
        pile(aboveOn(255, 45), 2, 3);
        pile(aboveOn(255, 44), 1, 1);
    }

    private static void pileBears() {
        due.of("a fifth of its WOOL (cut)");
        pile(aboveOn(0, 4), 1, 1);
        pile(aboveOn(0, 5), 2, 3);
        pile(aboveOn(1, 9), 1, 1);
        pile(aboveOn(1, 10), 2, 3);
        pile(aboveOn(3, 14), 1, 1);
        pile(aboveOn(3, 15), 2, 3);
        pile(aboveOn(255, 99), 2, 3);
    }

    private static void pileOfAllAbove() {
        due.of("of all above it together");
        HassockSee see = Given.only(0);
        see.hassock(0, 1, 0);
        see.hassock(1, 5, 0);
        see.hassock(2, 9, 0);
        pile(see, 2, 3);
        see.hassock(2, 10, 0);
        pile(see, 3, 7);
        see.hassock(1, 5, 1);
        pile(see, 2, 3);
        see.hassock(2, 15, 255);
        pile(see, 3, 7);
        // Above the fourth there is 1 and 2 and 9.
        see.hassock(3, 59, 0);
        pile(see, 3, 7);
        see.hassock(3, 60, 0);
        pile(see, 4, 15);
    }

    private static void pileLeastAsBits() {
        due.of("which are in it, least as bits of as many");
        HassockSee see = Given.only(0);
        for (int h = 0; h < 10; h++) {
            see.hassock(h, 4, 0);
        }
        pile(see, 1, 1);
        see.gone(0);
        pile(see, 1, 2);
        see.hassock(9, 5, 0);
        pile(see, 2, 512 + 2);
        see.hassock(3, 5, 0);
        pile(see, 2, 8 + 2);
        see.hassock(1, 4, 1);
        pile(see, 2, 8 + 4);
        see.hassock(9, 10, 0);
        pile(see, 3, 512 + 8 + 4);
    }

    private static void pileOfNobody() {
        due.of("PILE: how many (what = 0), which (1).");
        pile(Given.only(0), 0, 0);
        pile(Given.only(512), 1, 512);
        HassockSee see = Given.only(1);
        see.hassock(0, 1, 255);
        pile(see, 1, 1);
        see.gone(0);
        pile(see, 0, 0);
    }

    private static void pileOfAll() {
        due.of("the most in one pile");
        pile(new HassockSee(), 10, 1023);
        HassockSee see = new HassockSee();
        for (int h = 0; h < 10; h++) {
            see.hassock(h, h == 0 ? 1 : 5 * h, 0);
        }
        pile(see, 10, 1023);
        see.hassock(9, 44, 0);
        pile(see, 9, 511);
        for (int h = 0; h < 10; h++) {
            see.hassock(h, 99, 255);
        }
        pile(see, 3, 7);
    }

    private static void pileNow() {
        due.of("(As things are now.)");
        HassockSee see = aboveOn(0, 4);
        due.says(see, "B+");
        pile(see, 1, 1);
        see.done();
        pile(see, 2, 3);
    }

    private static void pileRefused() {
        due.of("PILE: how many (what = 0), which (1). OUTSIDE.");
        HassockSee see = new HassockSee();
        HassockSee none = Given.only(0);
        for (int what : Given.outside(0, 1)) {
            due.is("pile(" + what + ")", see.pile(what), OUTSIDE);
            due.is("pile(" + what + ") of nobody", none.pile(what), OUTSIDE);
        }
    }
}

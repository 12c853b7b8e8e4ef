/** Part 2 of 'Terms', the acts of part 1, and promises 9 to 14, sentence by sentence. */
public final class YearsEdgesTest {
    private static final int UNKNOWN = Given.UNKNOWN, OUTSIDE = Given.OUTSIDE, STATE = Given.STATE, NO = Given.NO,
            NONE = Given.NONE;

    private static final Due due = new Due();

    private YearsEdgesTest() {
    }

    public static void main(String[] args) {
        knees();
        noneIsLeft();
        stuffed();
        stuffedToTheMost();
        needle();
        unionOfWool();
        unionOfStitches();
        placesChange();
        sold();
        moths();
        gives();
        givesAtFullHair();
        ofThoseThere();
        leastReason();
        reasonNotThere();
        reasonHair();
        reasonWool();
        reasonBothOne();
        reasonLast();
        reasonYear();
        judgedFirst();
        judgedSwept();
        judgeRefused();
        textOfNoActs();
        textOfAllActs();
        behindOfOneNotThere();
        behindRefused();
        see();
        seeRefused();
        swept();
        sweptNone();
        sweptRefused();
        done();
        doneRefused();
        borders();
        bordersOneBehindAnother();
        due.end("YearsEdgesTest");
    }

    /** What is so behind a text. */
    private static int wool(HassockSee see, String text, int hassock) {
        return behind(see, text, hassock, 1);
    }

    private static int stitches(HassockSee see, String text, int hassock) {
        return behind(see, text, hassock, 2);
    }

    private static int behind(HassockSee see, String text, int hassock, int what) {
        see.wipe();
        due.says(see, text);
        return see.behind(hassock, what);
    }

    private static int hair(HassockSee see, String text) {
        see.wipe();
        due.says(see, text);
        return see.see(0);
    }

    private static void knees() {
        due.of("a digit 1 to 9 (knees: WOOL is 3 times that less");
        for (int digit = 1; digit <= 9; digit++) {
            due.is("99, by " + digit, wool(Given.first(99, 0), "A" + digit, 0), 99 - 3 * digit);
        }
        due.is("hair", hair(new HassockSee(), "A9"), 20);
        due.is("stitches", stitches(Given.first(99, 255), "A9", 0), 255);
    }

    private static void noneIsLeft() {
        due.of("is none left, it is SWEPT up: it is there no more");
        due.is("28 by 27", wool(Given.first(28, 0), "A9", 0), 1);
        due.is("27 by 27", wool(Given.first(27, 0), "A9", 0), NONE);
        due.is("26 by 27", wool(Given.first(26, 0), "A9", 0), NONE);
        due.is("4 by 3", wool(Given.first(4, 0), "A1", 0), 1);
        due.is("3 by 3", wool(Given.first(3, 0), "A1", 0), NONE);
        due.is("2 by 3", wool(Given.first(2, 0), "A1", 0), NONE);
        due.is("1 by 27", wool(Given.first(1, 0), "A9", 0), NONE);
        due.is("3 by 3: there", behind(Given.first(3, 0), "A1", 0, 0), 0);
        HassockSee see = Given.first(3, 0);
        due.says(see, "A1");
        due.is("it brings no hair", see.see(0), 20);
        due.is("who are left", see.see(1), 1022);
        HassockSee last = Given.only(1);
        due.says(last, "A9A8");
        due.is("the last, too", last.see(1), 0);
        due.is("done", last.done(), 2);
        due.is("nobody", last.told(1), 0);
    }

    private static void stuffed() {
        due.of("+ (stuffed: WOOL is 20 more");
        due.is("1", wool(Given.first(1, 0), "A+", 0), 21);
        due.is("78", wool(Given.first(78, 0), "A+", 0), 98);
        due.of("99 at most, HAIR 5 less)");
        due.is("hair 5", hair(Given.withHair(5), "A+"), 0);
        due.is("hair 999", hair(Given.withHair(999), "A+"), 994);
        due.is("all of 20", hair(new HassockSee(), "A+B+C+D+"), 0);
    }

    private static void stuffedToTheMost() {
        due.of("WOOL is 20 more, 99 at most");
        due.is("79", wool(Given.first(79, 0), "A+", 0), 99);
        due.is("80", wool(Given.first(80, 0), "A+", 0), 99);
        due.is("98", wool(Given.first(98, 0), "A+", 0), 99);
        due.is("98: hair all the same", hair(Given.first(98, 0), "A+"), 15);
    }

    private static void needle() {
        due.of("a needle: that STITCH is set, or unpicked)");
        for (int stitch = 0; stitch <= 7; stitch++) {
            String text = "A*" + stitch;
            due.is(text + " of none", stitches(Given.first(1, 0), text, 0), 1 << stitch);
            due.is(text + " of all", stitches(Given.first(1, 255), text, 0), 255 - (1 << stitch));
            due.is(text + " twice", stitches(Given.first(1, 90), text + text, 0), 90);
        }
    }

    private static void unionOfWool() {
        due.of("a union: that one's WOOL is added to its own, 99 at most");
        HassockSee see = new HassockSee();
        see.hassock(0, 49, 0);
        due.is("49 and 50", wool(see, "A&B", 0), 99);
        see.hassock(0, 48, 0);
        due.is("48 and 50", wool(see, "A&B", 0), 98);
        see.hassock(0, 50, 0);
        due.is("50 and 50", wool(see, "A&B", 0), 99);
        see.hassock(0, 99, 0);
        see.hassock(9, 99, 0);
        due.is("99 and 99", wool(see, "A&J", 0), 99);
        due.is("by that one", wool(see, "J&A", 9), 99);
        see.hassock(0, 1, 0);
        see.hassock(9, 1, 0);
        due.is("1 and 1", wool(see, "J&A", 9), 2);
        due.is("it costs no hair", see.see(0), 20);
    }

    private static void unionOfStitches() {
        due.of("and its STITCHES besides; that one is there no more)");
        HassockSee see = Given.first(50, 0b1010);
        see.hassock(1, 50, 0b0110);
        due.is("both", stitches(see, "A&B", 0), 0b1110);
        due.is("that one", see.behind(1, 0), 0);
        due.is("its wool", see.behind(1, 1), NONE);
        due.is("its place", see.behind(1, 3), 1);
        due.is("its own place", see.behind(0, 3), 0);
        due.is("all and all", stitches(Given.first(50, 255), "A&B", 0), 255);
        due.is("none and none", stitches(Given.first(50, 0), "A&B", 0), 0);
        HassockSee two = Given.only(3);
        due.says(two, "B&A");
        due.is("of two, one is left", two.see(1), 2);
    }

    private static void placesChange() {
        due.of("= and a HASSOCK's letter (both change PLACES)");
        HassockSee see = Given.first(9, 5);
        due.is("the one", behind(see, "A=J", 0, 3), 9);
        due.is("the other", see.behind(9, 3), 0);
        due.is("wool stays", see.behind(0, 1), 9);
        due.is("stitches stay", see.behind(0, 2), 5);
        due.is("and back", behind(see, "A=JJ=A", 0, 3), 0);
        due.is("all round", behind(see, "A=BB=CC=A", 0, 3), 0);
        due.is("all round: the last", see.behind(2, 3), 1);
    }

    private static void sold() {
        due.of("$ (sold: it is there no more, HAIR is 10 more, 999 at most)");
        due.is("hair 0", hair(Given.withHair(0), "A$"), 10);
        due.is("hair 988", hair(Given.withHair(988), "A$"), 998);
        due.is("hair 989", hair(Given.withHair(989), "A$"), 999);
        due.is("hair 990", hair(Given.withHair(990), "A$"), 999);
        due.is("hair 999", hair(Given.withHair(999), "A$"), 999);
        due.is("nine", hair(Given.withHair(0), "A$B$C$D$E$F$G$H$I$"), 90);
        due.is("it is there no more", behind(new HassockSee(), "J$", 9, 0), 0);
        due.is("its place stays", behind(new HassockSee(), "J$", 9, 3), 9);
    }

    private static void moths() {
        due.of("has WOOL below 20 the moth eats the highest STITCH, if there is one");
        due.is("19", stitches(Given.first(19, 255), ".", 0), 127);
        due.is("20", stitches(Given.first(20, 255), ".", 0), 255);
        due.is("1", stitches(Given.first(1, 255), ".", 0), 127);
        due.is("the highest and the lowest", stitches(Given.first(19, 129), ".", 0), 1);
        due.is("the highest alone", stitches(Given.first(19, 128), ".", 0), 0);
        due.is("the lowest alone", stitches(Given.first(19, 1), ".", 0), 0);
        due.is("none", stitches(Given.first(19, 0), ".", 0), 0);
        due.is("eight years", stitches(Given.first(19, 255), "........", 0), 0);
        due.is("nine years", stitches(Given.first(19, 255), ".........", 0), 0);
        due.is("seven years", stitches(Given.first(19, 255), ".......", 0), 1);
        due.is("its wool stays", wool(Given.first(19, 255), ".", 0), 19);
        due.is("knelt below 20 before", stitches(Given.first(22, 255), "A1.", 0), 127);
        due.is("knelt below 20 behind", stitches(Given.first(22, 255), ".A1", 0), 255);
    }

    private static void gives() {
        due.of("each that has WOOL of 50 at least gives 1 of it");
        due.is("49", wool(Given.first(49, 0), ".", 0), 49);
        due.is("50", wool(Given.first(50, 0), ".", 0), 49);
        due.is("99", wool(Given.first(99, 0), ".", 0), 98);
        due.is("50, two years", wool(Given.first(50, 0), "..", 0), 49);
        due.is("its stitches stay", stitches(Given.first(50, 255), ".", 0), 255);
        due.is("20: neither", wool(Given.first(20, 255), ".", 0), 20);
        due.is("one of 49: the nine give", hair(Given.first(49, 0), "."), 29);
        due.is("one of 50: all ten give", hair(Given.first(50, 0), "."), 30);
        due.is("none gives the second year", hair(Given.first(50, 0), ".."), 30);
    }

    private static void givesAtFullHair() {
        due.of("gives 1 of it (at 999 HAIR, too), and 1 of HAIR comes in, 999 at most)");
        due.is("998 and ten", hair(Given.withHair(998), "."), 999);
        due.is("989 and ten", hair(Given.withHair(989), "."), 999);
        due.is("988 and ten", hair(Given.withHair(988), "."), 998);
        due.is("999 and ten", hair(Given.withHair(999), "."), 999);
        due.is("at 999, A gives", wool(Given.withHair(999), ".", 0), 49);
        due.is("at 999, J gives", wool(Given.withHair(999), ".", 9), 49);
        due.is("at 998, J gives", wool(Given.withHair(998), ".", 9), 49);
    }

    private static void ofThoseThere() {
        due.of("of each that is there and has WOOL below 20");
        due.is("one is gone", hair(Given.only(1022), "."), 29);
        due.is("nobody is there", hair(Given.only(0), "."), 20);
        due.is("sold: it gives no more", hair(new HassockSee(), "A$."), 39);
        due.is("united: both give one", hair(new HassockSee(), "A&B."), 29);
        HassockSee none = Given.only(0);
        due.says(none, ".");
        due.is("a year of nobody", none.done(), 1);
        due.is("the year", none.told(3), 1);
    }

    private static void judged(HassockSee see, String text, int act, int why) {
        see.wipe();
        due.says(see, text);
        due.is("judge(0) of " + text, see.judge(0), act);
        due.is("judge(1) of " + text, see.judge(1), why);
    }

    private static void leastReason() {
        due.of("An ACT can not be for the least of these reasons");
        HassockSee none = Given.only(0);
        none.hair(4);
        judged(none, "A+", 0, 1);
        judged(none, "A&A", 0, 1);
        judged(none, "A=A", 0, 1);
        judged(none, "A$", 0, 1);
        HassockSee one = Given.only(1);
        one.hassock(0, 99, 0);
        one.hair(4);
        judged(one, "A+", 0, 2);
        judged(one, "B+", 0, 1);
        judged(one, "B$", 0, 1);
        judged(one, "A&B", 0, 1);
        judged(one, "B=B", 0, 1);
        judged(one, "A=A", 0, 4);
        one.hair(5);
        judged(one, "A+", 0, 3);
        one.gone(0);
        judged(one, "A+", 0, 1);
    }

    private static void reasonNotThere() {
        due.of("1 the HASSOCK is not there (one of both)");
        HassockSee see = Given.only(0b0111111110);
        String[] texts = {"A1", "A9", "A+", "A*0", "A*7", "A&B", "B&A", "A&J", "A=B", "B=A", "J=A", "J$"};
        for (String text : texts) {
            judged(see, text, 0, 1);
        }
        judged(see, "B$B1", 1, 1);
        judged(see, "B9B9B1", 2, 1);
        judged(see, "C&BB1", 1, 1);
        judged(see, "C&BC1", NONE, NONE);
    }

    private static void reasonHair() {
        due.of("2 HAIR is less than 5 (+)");
        judged(Given.withHair(5), "A+", NONE, NONE);
        judged(Given.withHair(4), "A+", 0, 2);
        judged(Given.withHair(0), "A+", 0, 2);
        judged(Given.withHair(9), "A+B+", 1, 2);
        judged(Given.withHair(10), "A+B+", NONE, NONE);
        judged(Given.withHair(0), "A$B+C+D+", 3, 2);
        judged(Given.withHair(0), ".A+", NONE, NONE);
        judged(Given.withHair(0), "A1A*1A=BA&BC$.", NONE, NONE);
    }

    private static void reasonWool() {
        due.of("3 WOOL is 99 already (+)");
        judged(Given.first(98, 0), "A+", NONE, NONE);
        judged(Given.first(99, 0), "A+", 0, 3);
        judged(Given.first(80, 0), "A+A+", 1, 3);
        judged(Given.first(99, 0), "A1A+", NONE, NONE);
        judged(Given.first(99, 0), ".A+", NONE, NONE);
        judged(Given.first(99, 0), "A&B", NONE, NONE);
        judged(Given.first(99, 0), "B+A+", 1, 3);
    }

    private static void reasonBothOne() {
        due.of("4 both are one (&, =)");
        judged(new HassockSee(), "A&A", 0, 4);
        judged(new HassockSee(), "J=J", 0, 4);
        judged(new HassockSee(), "A&BA=A", 1, 4);
        judged(Given.only(1), "A&A", 0, 4);
        judged(Given.only(1), "A=A", 0, 4);
    }

    private static void reasonLast() {
        due.of("5 it is the last that is there ($)");
        judged(Given.only(3), "A$", NONE, NONE);
        judged(Given.only(3), "B$", NONE, NONE);
        judged(Given.only(3), "A$B$", 1, 5);
        judged(Given.only(1), "A$", 0, 5);
        judged(Given.only(512), "J$", 0, 5);
        judged(Given.only(7), "A&BA$C$", 2, 5);
        judged(Given.only(3), "A9A9B$", 2, 5);
        judged(Given.only(1), "A1A+A*1.", NONE, NONE);
        judged(Given.only(1), "A9A9", NONE, NONE);
        HassockSee see = new HassockSee();
        judged(see, "A$B$C$D$E$F$G$H$I$J$", 9, 5);
    }

    private static void reasonYear() {
        due.of("6 it is year 99 (.)");
        HassockSee see = Given.inYear(98);
        due.is("year", see.told(3), 98);
        judged(see, ".", NONE, NONE);
        judged(see, "..", 1, 6);
        see.wipe();
        see.say('.');
        due.is("done()", see.done(), 1);
        due.is("year 99", see.told(3), 99);
        judged(see, ".", 0, 6);
        judged(see, "A1.", 1, 6);
        judged(see, "A1A+", NONE, NONE);
        HassockSee young = Given.inYear(39);
        judged(young, ".".repeat(60), NONE, NONE);
        due.is("year 99 behind sixty", young.see(3), 99);
        HassockSee older = Given.inYear(40);
        judged(older, ".".repeat(60), 59, 6);
    }

    private static void judgedFirst() {
        due.of("JUDGED: the first ACT (from 0 on) that can not be, why");
        judged(new HassockSee(), "A&AA+", 0, 4);
        judged(new HassockSee(), "A*1A*1A$A1B&B", 3, 1);
        judged(new HassockSee(), "B&BA$A1", 0, 4);
        judged(new HassockSee(), ".".repeat(57) + "A=A", 57, 4);
        due.of("JUDGED: the ACT (what = 0), why (1), how many (2); NONE.");
        judged(new HassockSee(), "A*1A*1A$B1C&D", NONE, NONE);
        due.is("none is swept", Given.text(due, "A1").judge(2), 0);
    }

    private static void judgedSwept() {
        due.of("how many were SWEPT up in the text");
        HassockSee see = new HassockSee();
        for (int h = 0; h < 10; h++) {
            see.hassock(h, 3 + h % 2, 0);
        }
        due.says(see, "B1");
        due.is("none", see.judge(2), 0);
        due.says(see, "A1");
        due.is("one", see.judge(2), 1);
        due.says(see, "B1C1D2E1F9G1H2I3J4");
        due.is("all", see.judge(2), 10);
        see.wipe();
        due.says(see, "A$C&BD=EE*1F+");
        due.is("neither sold nor united", see.judge(2), 0);
        see.say('E');
        see.say('1');
        see.done();
        due.is("in this text alone", see.judge(2), 0);
    }

    private static void judgeRefused() {
        due.of("OUTSIDE; NO: there is a FAULT; STATE (2): some ACT can not be.");
        HassockSee see = new HassockSee();
        for (int what : Given.outside(0, 2)) {
            due.is("judge(" + what + ")", see.judge(what), OUTSIDE);
        }
        due.says(see, "A&A");
        due.is("judge(0)", see.judge(0), 0);
        due.is("judge(1)", see.judge(1), 4);
        due.is("judge(2)", see.judge(2), STATE);
        due.says(see, "x");
        for (int what = 0; what <= 2; what++) {
            due.is("judge(" + what + ") with a fault", see.judge(what), NO);
        }
        see.wipe();
        due.says(see, "A9A9A");
        due.is("judge(2), a sign must come", see.judge(2), NO);
    }

    private static void textOfNoActs() {
        due.of("(an empty PAD has no FAULT: no ACTS)");
        HassockSee see = Given.first(33, 7);
        due.is("judge(0)", see.judge(0), NONE);
        due.is("judge(1)", see.judge(1), NONE);
        due.is("judge(2)", see.judge(2), 0);
        due.is("behind(0, 0)", see.behind(0, 0), 1);
        due.is("behind(0, 1)", see.behind(0, 1), 33);
        due.is("behind(0, 2)", see.behind(0, 2), 7);
        due.is("behind(0, 3)", see.behind(0, 3), 0);
        due.is("see(0)", see.see(0), 20);
        due.is("see(1)", see.see(1), 1023);
        due.is("see(2)", see.see(2), 3);
        due.is("see(3)", see.see(3), 0);
        due.is("swept(0)", see.swept(0), NONE);
        due.is("swept(1)", see.swept(1), NONE);
        due.is("done()", see.done(), 0);
        due.is("wool stays", see.told(20), 33);
    }

    private static void textOfAllActs() {
        due.of("on a PAD of up to 60 signs (codes 33 to 126) of ACTS");
        HassockSee see = Given.text(due, "J*7".repeat(19) + ".J1");
        due.is("the last one counts", see.behind(9, 1), 46);
        due.is("nineteen needles", see.behind(9, 2), 128);
        due.is("acts", see.done(), 21);
        see = Given.text(due, ".".repeat(58) + "A9");
        due.is("sixty signs", see.behind(0, 1), 22);
        see = Given.text(due, "..." + "A=B".repeat(19));
        due.is("the last three signs", see.behind(0, 3), 1);
    }

    private static void behindOfOneNotThere() {
        due.of("BEHIND: of a HASSOCK whether it is there (1, 0), WOOL (NONE: not there), STITCHES (NONE), its PLACE");
        HassockSee see = Given.only(1022);
        see.swap(0, 4);
        for (String text : new String[] {"", "B1"}) {
            due.is("there, gone before", behind(see, text, 0, 0), 0);
            due.is("wool", see.behind(0, 1), NONE);
            due.is("stitches", see.behind(0, 2), NONE);
            due.is("place", see.behind(0, 3), 4);
        }
        due.is("swept by the text", behind(see, "B9B9", 1, 0), 0);
        due.is("its wool", see.behind(1, 1), NONE);
        due.is("its stitches", see.behind(1, 2), NONE);
        due.is("its place", see.behind(1, 3), 1);
        due.is("it is there in fact", see.told(21), 50);
    }

    private static void behindRefused() {
        due.of("UNKNOWN: there is none of that number; OUTSIDE; NO, STATE, as of judge(2).");
        HassockSee see = new HassockSee();
        for (int h : Given.NO_HASSOCKS) {
            for (int what = -1; what <= 4; what++) {
                due.is("behind(" + h + ", " + what + ")", see.behind(h, what), UNKNOWN);
            }
        }
        for (int what : Given.outside(0, 3)) {
            due.is("behind(0, " + what + ")", see.behind(0, what), OUTSIDE);
            due.is("behind(9, " + what + ")", see.behind(9, what), OUTSIDE);
        }
        due.says(see, "A=A");
        for (int what = 0; what <= 3; what++) {
            due.is("behind(1, " + what + ") of A=A", see.behind(1, what), STATE);
        }
        see.say('A');
        for (int what = 0; what <= 3; what++) {
            due.is("behind(1, " + what + ") of A=AA", see.behind(1, what), NO);
        }
    }

    private static void see() {
        due.of("SEE: HAIR, who are there (bits), STITCHES of these in all, the year");
        HassockSee see = new HassockSee();
        for (int h = 0; h < 10; h++) {
            see.hassock(h, 50, 255);
        }
        due.is("ten of eight", see.see(2), 80);
        due.says(see, "A$");
        due.is("of these alone", see.see(2), 72);
        due.is("who", see.see(1), 1022);
        due.is("hair", see.see(0), 30);
        HassockSee none = Given.only(0);
        due.says(none, ".");
        due.is("nobody: who", none.see(1), 0);
        due.is("nobody: stitches", none.see(2), 0);
        due.is("nobody: hair", none.see(0), 20);
        due.is("nobody: year", none.see(3), 1);
    }

    private static void seeRefused() {
        due.of("SEE: HAIR (what = 0), who (1), STITCHES (2), the year (3). OUTSIDE; NO, STATE, likewise.");
        HassockSee see = new HassockSee();
        for (int what : Given.outside(0, 3)) {
            due.is("see(" + what + ")", see.see(what), OUTSIDE);
        }
        due.says(see, "A=A");
        for (int what = 0; what <= 3; what++) {
            due.is("see(" + what + ") of A=A", see.see(what), STATE);
        }
        see.say('A');
        for (int what = 0; what <= 3; what++) {
            due.is("see(" + what + ") of A=AA", see.see(what), NO);
        }
    }

    private static void swept() {
        due.of("SWEPT: the first ACT by which one was; which");
        HassockSee see = Given.first(3, 0);
        see.hassock(9, 3, 0);
        due.says(see, "J1A1");
        due.is("act 0", see.swept(0), 0);
        due.is("J", see.swept(1), 9);
        see.wipe();
        due.says(see, "A1J1");
        due.is("act 0 again", see.swept(0), 0);
        due.is("A", see.swept(1), 0);
        see.wipe();
        due.says(see, ".".repeat(58) + "J1");
        due.is("act 58", see.swept(0), 58);
        due.is("J, then", see.swept(1), 9);
    }

    private static void sweptNone() {
        due.of("SWEPT: the ACT (what = 0), which (1); NONE.");
        HassockSee see = Given.first(4, 0);
        due.says(see, "A1B$D&C.");
        due.is("the act", see.swept(0), NONE);
        due.is("which", see.swept(1), NONE);
    }

    private static void sweptRefused() {
        due.of("SWEPT: the ACT (what = 0), which (1); NONE. OUTSIDE; NO, STATE, likewise.");
        HassockSee see = new HassockSee();
        for (int what : Given.outside(0, 1)) {
            due.is("swept(" + what + ")", see.swept(what), OUTSIDE);
        }
        due.says(see, "A9A9A1");
        due.is("swept(0)", see.swept(0), STATE);
        due.is("swept(1)", see.swept(1), STATE);
        see.say('A');
        due.is("swept(0) with a fault", see.swept(0), NO);
        due.is("swept(1) with a fault", see.swept(1), NO);
    }

    private static void done() {
        due.of("YEARS are DONE (the PAD is empty then): ACTS.");
        HassockSee see = Given.text(due, ".");
        due.is("of one", see.done(), 1);
        due.is("signs", see.told(0), 0);
        due.is("fault", see.fault(), NONE);
        due.is("of none", see.done(), 0);
        due.is("the year", see.told(3), 1);
        due.says(see, ".".repeat(60));
        due.is("of sixty", see.done(), 60);
        due.is("the year, then", see.told(3), 61);
        due.is("a sign more", see.say('.'), 1);
    }

    private static void doneRefused() {
        due.of("YEARS are DONE (the PAD is empty then): ACTS. NO, STATE, likewise.");
        HassockSee see = Given.text(due, ".A1B=B");
        due.is("some act can not be", see.done(), STATE);
        due.is("signs stay", see.told(0), 6);
        due.is("not even the acts before it", see.told(3), 0);
        due.is("nor knees", see.told(20), 50);
        see.say('B');
        due.is("a fault", see.done(), NO);
        due.is("signs stay, too", see.told(0), 7);
        due.is("nothing is done", see.told(3), 0);
    }

    private static void borders() {
        due.of("of each two that follow each other STITCHES that one has and the other has not, in all");
        due.is("nobody", Given.only(0).borders(), 0);
        HassockSee see = Given.only(1);
        see.hassock(0, 50, 255);
        due.is("one alone", see.borders(), 0);
        see.hassock(9, 50, 255);
        due.is("two alike", see.borders(), 0);
        see.hassock(9, 50, 0);
        due.is("all and none", see.borders(), 8);
        see.hassock(9, 50, 0b11110000);
        see.hassock(0, 50, 0b00111100);
        due.is("both ways", see.borders(), 4);
        HassockSee most = new HassockSee();
        for (int h = 0; h < 10; h++) {
            most.hassock(h, 50, h % 2 == 0 ? 255 : 0);
        }
        due.is("the most", most.borders(), 72);
    }

    private static void bordersOneBehindAnother() {
        due.of("those that are there, by their PLACES one behind another");
        HassockSee see = Given.only(0b1000010001);
        see.hassock(0, 50, 1);
        see.hassock(4, 50, 3);
        see.hassock(9, 50, 7);
        due.is("past those that are not there; the last and the first do not follow", see.borders(), 2);
        see.swap(0, 4);
        due.is("by places", see.borders(), 3);
        see.swap(0, 9);
        due.is("by places, again", see.borders(), 3);
        due.says(see, "J*7");
        due.of("BORDERS, now.");
        due.is("not behind the pad", see.borders(), 3);
        see.done();
        due.is("when it is done", see.borders(), 5);
    }
}

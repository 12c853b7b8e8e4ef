/** Part 1 of 'Terms' and promises 1 to 8, sentence by sentence: hassocks, the chest, the pad and its fault. */
public final class HassocksEdgesTest {
    private static final int UNKNOWN = Given.UNKNOWN, OUTSIDE = Given.OUTSIDE, FULL = Given.FULL, NONE = Given.NONE;

    private static final Due due = new Due();

    private HassocksEdgesTest() {
    }

    public static void main(String[] args) {
        allAreThereAtFirst();
        orNot();
        numbersOfHassocks();
        wool();
        stitches();
        places();
        placesOfEachAnother();
        hair();
        yearAtFirst();
        newObject();
        hassockOrAnew();
        placeStays();
        howManyAre();
        goneThatWasNot();
        hairWhichItWas();
        swapOfThoseNotThere();
        swapRefused();
        padOfSixtySigns();
        codes();
        wipe();
        letters();
        digits();
        needles();
        unitedWith();
        changedWith();
        otherSigns();
        firstThatCanNotStand();
        moreMustCome();
        emptyPad();
        due.end("HassocksEdgesTest");
    }

    private static void allAreThereAtFirst() {
        due.of("HASSOCKS 0 to 9 (A to J) are there (all, at first)");
        HassockSee see = new HassockSee();
        due.is("who", see.told(1), 1023);
        due.is("gone(0)", see.gone(0), 9);
        due.is("gone(9)", see.gone(9), 8);
        due.says(see, "B1I1");
        due.is("B behind its knees", see.behind(1, 1), 47);
        due.is("I behind its knees", see.behind(8, 1), 47);
    }

    private static void orNot() {
        due.of("are there (all, at first), or not");
        HassockSee see = Given.only(0);
        due.is("who, all gone", see.told(1), 0);
        due.is("hassock(9, 1, 0)", see.hassock(9, 1, 0), 1);
        due.is("who, then", see.told(1), 512);
        due.is("gone(9)", see.gone(9), 0);
        due.is("who, at last", see.told(1), 0);
    }

    private static void numbersOfHassocks() {
        due.of("UNKNOWN -1 (there is no such HASSOCK)");
        HassockSee see = new HassockSee();
        for (int h : Given.NO_HASSOCKS) {
            due.is("hassock(" + h + ", 1, 0)", see.hassock(h, 1, 0), UNKNOWN);
            due.is("gone(" + h + ")", see.gone(h), UNKNOWN);
        }
        for (int h = 0; h < 10; h++) {
            due.is("hassock(" + h + ", 1, 0)", see.hassock(h, 1, 0), 10);
        }
        due.is("who", see.told(1), 1023);
    }

    private static void wool() {
        due.of("each has WOOL (1 to 99; 50 at first)");
        HassockSee see = new HassockSee();
        for (int h = 0; h < 10; h++) {
            due.is("wool of " + h + " at first", see.told(20 + h), 50);
        }
        due.is("hassock(4, 1, 0)", see.hassock(4, 1, 0), 10);
        due.is("wool 1", see.told(24), 1);
        due.is("hassock(4, 99, 0)", see.hassock(4, 99, 0), 10);
        due.is("wool 99", see.told(24), 99);
        for (int wool : Given.outside(1, 99)) {
            due.is("hassock(4, " + wool + ", 0)", see.hassock(4, wool, 0), OUTSIDE);
        }
        due.is("wool at last", see.told(24), 99);
    }

    private static void stitches() {
        due.of("and STITCHES (of 0 to 7, as bits; none at first)");
        HassockSee see = new HassockSee();
        for (int h = 0; h < 10; h++) {
            due.is("stitches of " + h + " at first", see.told(30 + h), 0);
        }
        due.is("hassock(4, 50, 255)", see.hassock(4, 50, 255), 10);
        due.is("all", see.told(34), 255);
        due.is("hassock(4, 50, 128)", see.hassock(4, 50, 128), 10);
        due.is("the highest alone", see.told(34), 128);
        due.is("hassock(4, 50, 0)", see.hassock(4, 50, 0), 10);
        due.is("none", see.told(34), 0);
        for (int stitches : Given.outside(0, 255)) {
            due.is("hassock(4, 50, " + stitches + ")", see.hassock(4, 50, stitches), OUTSIDE);
        }
    }

    private static void places() {
        due.of("a PLACE in the row (0 to 9; that of its own number, at first");
        HassockSee see = new HassockSee();
        for (int h = 0; h < 10; h++) {
            due.is("place of " + h + " at first", see.told(10 + h), h);
        }
        due.is("from the first to the last", see.swap(0, 9), 9);
        due.is("from the last to the first", see.told(19), 0);
    }

    private static void placesOfEachAnother() {
        due.of("each another one, be they there or not");
        HassockSee see = new HassockSee();
        see.gone(3);
        see.swap(3, 4);
        see.swap(4, 9);
        due.says(see, "A=BC$E&FH=JA9A9");
        due.is("done()", see.done(), 6);
        see.hassock(2, 9, 9);
        int taken = 0;
        for (int h = 0; h < 10; h++) {
            taken |= 1 << see.told(10 + h);
        }
        due.is("all places are taken", taken, 1023);
        due.is("place of A, swept up", see.told(10), 1);
        due.is("place of C, sold and anew", see.told(12), 2);
        due.is("place of F, in a union", see.told(15), 5);
        due.is("place of D, that is gone", see.told(13), 4);
    }

    private static void hair() {
        due.of("HAIR in the chest is 0 to 999 (20 at first)");
        HassockSee see = new HassockSee();
        due.is("at first", see.told(2), 20);
        due.is("hair(0)", see.hair(0), 20);
        due.is("none", see.told(2), 0);
        due.is("hair(999)", see.hair(999), 0);
        due.is("most", see.told(2), 999);
        for (int hair : Given.outside(0, 999)) {
            due.is("hair(" + hair + ")", see.hair(hair), OUTSIDE);
        }
        due.is("at last", see.told(2), 999);
    }

    private static void yearAtFirst() {
        due.of("It is year 0 at first.");
        due.is("year", new HassockSee().told(3), 0);
        due.is("year behind nothing", new HassockSee().see(3), 0);
    }

    private static void newObject() {
        due.of("Ten without a pattern, in their row.");
        HassockSee see = new HassockSee();
        due.is("borders", see.borders(), 0);
        due.is("stitches in all", see.see(2), 0);
        due.is("signs", see.told(0), 0);
        due.is("sights", see.told(4), 0);
        due.is("one is another's nothing", new HassockSee().gone(0), 9);
        due.is("this one's are all there", see.told(1), 1023);
    }

    private static void hassockOrAnew() {
        due.of("A HASSOCK is there (or anew), WOOL, STITCHES");
        HassockSee see = new HassockSee();
        due.is("anew", see.hassock(5, 33, 44), 10);
        due.is("its wool", see.told(25), 33);
        due.is("its stitches: not besides", see.hassock(5, 34, 3), 10);
        due.is("stitches", see.told(35), 3);
        see.gone(5);
        due.is("there again", see.hassock(5, 1, 0), 10);
        due.is("wool then", see.told(25), 1);
        due.is("stitches then", see.told(35), 0);
    }

    private static void placeStays() {
        due.of("(its PLACE stays)");
        HassockSee see = new HassockSee();
        see.swap(0, 7);
        see.hassock(0, 9, 9);
        due.is("anew", see.told(10), 7);
        see.gone(0);
        due.is("gone", see.told(10), 7);
        see.hassock(0, 9, 9);
        due.is("there again", see.told(10), 7);
    }

    private static void howManyAre() {
        due.of("A HASSOCK is there no more: how many are.");
        HassockSee see = new HassockSee();
        for (int left = 9; left >= 0; left--) {
            due.is("gone(" + left + ")", see.gone(left), left);
        }
        due.of("(its PLACE stays): how many are.");
        for (int h = 0; h < 10; h++) {
            due.is("hassock(" + h + ", 1, 0)", see.hassock(h, 1, 0), h + 1);
        }
    }

    private static void goneThatWasNot() {
        due.of("UNKNOWN: it was not.");
        HassockSee see = new HassockSee();
        due.is("gone(8)", see.gone(8), 9);
        due.is("gone(8) again", see.gone(8), UNKNOWN);
        due.says(see, "A$B9B9C&D");
        due.is("all are there till it is done", see.told(1), 1023 - 256);
        see.done();
        due.is("gone(0), sold", see.gone(0), UNKNOWN);
        due.is("gone(1), swept up", see.gone(1), UNKNOWN);
        due.is("gone(3), in a union", see.gone(3), UNKNOWN);
        due.is("gone(2)", see.gone(2), 5);
    }

    private static void hairWhichItWas() {
        due.of("HAIR: which it was. OUTSIDE.");
        HassockSee see = new HassockSee();
        due.is("hair(5)", see.hair(5), 20);
        due.is("hair(5) again", see.hair(5), 5);
        due.is("hair(1000)", see.hair(1000), OUTSIDE);
        due.is("hair(0) behind a refused one", see.hair(0), 5);
        due.is("hair(1)", see.hair(1), 0);
    }

    private static void swapOfThoseNotThere() {
        due.of("Two change PLACES (be they there or not): the PLACE the first has then.");
        HassockSee see = new HassockSee();
        see.gone(1);
        see.gone(2);
        due.is("both gone", see.swap(1, 2), 2);
        due.is("the other", see.told(12), 1);
        due.is("one of both gone", see.swap(0, 1), 2);
        due.is("the other one of both", see.swap(2, 3), 3);
        due.is("and back", see.swap(2, 3), 1);
    }

    private static void swapRefused() {
        due.of("UNKNOWN: both, both one.");
        HassockSee see = new HassockSee();
        for (int h : Given.NO_HASSOCKS) {
            due.is("swap(" + h + ", 4)", see.swap(h, 4), UNKNOWN);
            due.is("swap(4, " + h + ")", see.swap(4, h), UNKNOWN);
            due.is("swap(" + h + ", " + h + ")", see.swap(h, h), UNKNOWN);
        }
        for (int h = 0; h < 10; h++) {
            due.is("swap(" + h + ", " + h + ")", see.swap(h, h), UNKNOWN);
            due.is("place of " + h, see.told(10 + h), h);
        }
    }

    private static void padOfSixtySigns() {
        due.of("YEARS are a text on a PAD of up to 60 signs");
        HassockSee see = new HassockSee();
        for (int n = 1; n <= 60; n++) {
            due.is("sign " + n, see.say('.'), n);
        }
        due.is("sign 61", see.say('.'), FULL);
        due.is("signs", see.told(0), 60);
        due.is("all sixty are read", see.see(3), 60);
        due.is("done()", see.done(), 60);
        due.is("sign 1 again", see.say('.'), 1);
        due.of("A sign more: how many. OUTSIDE; FULL.");
        HassockSee wild = Given.text(due, "~".repeat(60));
        due.is("a full pad of faults", wild.say('~'), FULL);
        due.is("its fault", wild.fault(), 0);
        wild.wipe();
        due.is("wiped, a sign more", wild.say('.'), 1);
    }

    private static void codes() {
        due.of("signs (codes 33 to 126)");
        HassockSee see = new HassockSee();
        due.is("say(33)", see.say(33), 1);
        due.is("say(126)", see.say(126), 2);
        due.is("say(32)", see.say(32), OUTSIDE);
        due.is("say(127)", see.say(127), OUTSIDE);
        for (int sign : Given.outside(33, 126)) {
            due.is("say(" + sign + ")", see.say(sign), OUTSIDE);
        }
        due.is("signs", see.told(0), 2);
    }

    private static void wipe() {
        due.of("Signs go: how many there were.");
        HassockSee see = new HassockSee();
        due.is("of none", see.wipe(), 0);
        due.says(see, ".".repeat(60));
        due.is("of 60", see.wipe(), 60);
        due.is("of none again", see.wipe(), 0);
        due.is("signs", see.told(0), 0);
        due.says(see, "A");
        see.wipe();
        due.is("a fault goes with them", see.fault(), NONE);
    }

    private static void fault(String text, int place) {
        due.is("fault of " + text, Given.text(due, text).fault(), place);
    }

    private static void letters() {
        due.of("of ACTS: a HASSOCK's letter");
        for (char letter = 'A'; letter <= 'J'; letter++) {
            fault(letter + "1", NONE);
        }
        fault("@1", 0);
        fault("K1", 0);
        fault("a1", 0);
        fault("j1", 0);
        fault("01", 0);
    }

    private static void digits() {
        due.of("a digit 1 to 9 (knees");
        fault("A0", 1);
        for (char digit = '1'; digit <= '9'; digit++) {
            fault("A" + digit, NONE);
        }
        fault("A:", 1);
        fault("A10", 2);
        fault("A/", 1);
    }

    private static void needles() {
        due.of("* and a digit 0 to 7 (a needle");
        fault("A*/", 2);
        for (char digit = '0'; digit <= '7'; digit++) {
            fault("A*" + digit, NONE);
        }
        fault("A*8", 2);
        fault("A*9", 2);
        fault("A*A", 2);
        fault("A**", 2);
    }

    private static void unitedWith() {
        due.of("& and a HASSOCK's letter (a union");
        fault("A&@", 2);
        fault("A&A", NONE);
        fault("A&J", NONE);
        fault("A&K", 2);
        fault("A&1", 2);
        fault("A&.", 2);
    }

    private static void changedWith() {
        due.of("= and a HASSOCK's letter (both change PLACES)");
        fault("J=@", 2);
        fault("J=A", NONE);
        fault("J=J", NONE);
        fault("J=K", 2);
        fault("J==", 2);
        fault("J=a", 2);
    }

    private static void otherSigns() {
        due.of("or . (a year");
        fault(".", NONE);
        fault("-", 0);
        fault("/", 0);
        fault("A.", 1);
        due.of("+ (stuffed");
        fault("A+", NONE);
        fault("A,", 1);
        fault("+", 0);
        due.of("or $ (sold");
        fault("A$", NONE);
        fault("A#", 1);
        fault("A%", 1);
        fault("$", 0);
    }

    private static void firstThatCanNotStand() {
        due.of("THE FAULT: the place (from 0 on) of the first sign that can not stand there");
        fault("xyz", 0);
        fault("..x.x", 2);
        fault("A1x", 2);
        fault("A*1B&C.x", 7);
        fault("AAAA", 1);
        fault(".".repeat(59) + "x", 59);
        fault("A+".repeat(29) + "Ax", 59);
        fault("A&J".repeat(19) + "A&x", 59);
    }

    private static void moreMustCome() {
        due.of("or the number of signs, if more must come");
        fault("A", 1);
        fault("A*", 2);
        fault("A&", 2);
        fault("A=", 2);
        fault(".J", 2);
        fault("A+A", 3);
        fault("A&BA&", 5);
        fault(".".repeat(59) + "A", 60);
        fault("A+".repeat(29) + "A*", 60);
    }

    private static void emptyPad() {
        due.of("(an empty PAD has no FAULT: no ACTS)");
        HassockSee see = new HassockSee();
        due.is("fault", see.fault(), NONE);
        due.is("acts", see.done(), 0);
        see.say('x');
        see.wipe();
        due.is("fault, wiped", see.fault(), NONE);
        due.is("acts, wiped", see.done(), 0);
    }
}

/** Part 4 of 'Terms' and promises 18 to 27, sentence by sentence: wear, unpicking, moths, year-books, images, told. */
public final class WearEdgesTest {
    private static final int UNKNOWN = Given.UNKNOWN, OUTSIDE = Given.OUTSIDE, STATE = Given.STATE, FULL = Given.FULL,
            NONE = Given.NONE;
    private static final long GONE_OUTSIDE = -1000000000000000002L;

    private static final Due due = new Due();

    private WearEdgesTest() {
    }

    public static void main(String[] args) {
        wornBehind();
        wornCut();
        wornAtLeast();
        wornByNumbers();
        sights();
        sightsFull();
        forget();
        fits();
        fitsNone();
        fitsBelow();
        ask();
        askLeast();
        askNone();
        askRefused();
        unpickOneOrTwo();
        unpickLost();
        unpickLeast();
        unpickNotInFact();
        unpickRefused();
        mothsNone();
        mothsMean();
        mothsEdges();
        mothsOutside();
        bookSeed();
        bookKnees();
        bookStuffed();
        bookNeedle();
        bookUnion();
        bookPlaces();
        bookYear();
        bookActs();
        bookFromAllAsItIs();
        bookOutside();
        imageOfAllButThePad();
        images();
        restoreRefused();
        restoreStaysKept();
        toldOutside();
        toldOfHassocks();
        due.end("WearEdgesTest");
    }

    /** How many fit one sight, and the first and the last of them. */
    private static void fit(int sundays, int v, int count, int first, int last) {
        HassockSee see = new HassockSee();
        String sight = "(" + sundays + ", " + v + "): fits";
        due.is("felt" + sight, see.felt(sundays, v), 1);
        due.is(sight + "(-1)", see.fits(-1), count);
        due.is(sight + "(0)", see.fits(0), first);
        due.is(sight + "(" + (count - 1) + ")", count == 0 ? NONE : see.fits(count - 1), last);
        due.is(sight + "(" + count + ")", see.fits(count), NONE);
    }

    private static void wornBehind() {
        due.of("behind i Sundays (0 to 60) WOOL is 99 less i times a");
        fit(0, 99, 90, 10, 99);
        fit(0, 98, 0, NONE, NONE);
        fit(1, 98, 10, 10, 19);
        fit(1, 90, 10, 90, 99);
        fit(1, 99, 0, NONE, NONE);
        fit(1, 89, 0, NONE, NONE);
        fit(60, 39, 1, 10, 10);
        fit(60, 40, 0, NONE, NONE);
    }

    private static void wornCut() {
        due.of("less c times (i by 4, cut)");
        fit(3, 99 - 27, 10, 90, 99);
        fit(4, 99 - 36 - 9, 1, 99, 99);
        fit(4, 99 - 4, 1, 10, 10);
        fit(7, 99 - 7 * 3 - 5, 1, 35, 35);
        fit(8, 99 - 8 * 3 - 2 * 5, 3, 29, 41);
        fit(60, 99 - 60 - 15, 1, 11, 11);
        fit(59, 99 - 59 - 14, 1, 11, 11);
    }

    private static void wornAtLeast() {
        due.of("0 at least (a 1 to 9, c 0 to 9)");
        fit(60, 0, 87, 13, 99);
        fit(60, 9, 1, 12, 12);
        fit(11, 0, 14, 86, 99);
        fit(10, 0, 5, 95, 99);
        fit(9, 0, 1, 99, 99);
        fit(8, 0, 0, NONE, NONE);
        fit(60, 1, 0, NONE, NONE);
    }

    private static void wornByNumbers() {
        due.of("(a 1 to 9, c 0 to 9)");
        HassockSee see = new HassockSee();
        for (int i = 0; i < 90; i++) {
            due.is("fits(" + i + ")", see.fits(i), 10 + i);
        }
        due.is("how many", see.fits(-1), 90);
    }

    private static void sights() {
        due.of("behind so many it was felt as v (0 to 99)");
        HassockSee see = new HassockSee();
        for (int sundays : Given.outside(0, 60)) {
            due.is("felt(" + sundays + ", 50)", see.felt(sundays, 50), OUTSIDE);
        }
        for (int v : Given.outside(0, 99)) {
            due.is("felt(30, " + v + ")", see.felt(30, v), OUTSIDE);
        }
        due.is("sights", see.told(4), 0);
        due.is("felt(0, 99)", see.felt(0, 99), 1);
        due.is("felt(60, 0)", see.felt(60, 0), 2);
        due.is("felt(60, 99)", see.felt(60, 99), 3);
        due.is("felt(0, 0)", see.felt(0, 0), 4);
    }

    private static void sightsFull() {
        due.of("SIGHTS, 8 at most");
        HassockSee see = new HassockSee();
        for (int n = 1; n <= 7; n++) {
            due.is("sight " + n, see.felt(0, 99), n);
        }
        due.is("sight 8", see.felt(3, 84), 8);
        due.is("sight 9", see.felt(8, 99 - 40 - 14), FULL);
        due.is("the eighth counts, the ninth does not", see.fits(-1), 10);
        due.is("told(4)", see.told(4), 8);
        see.forget();
        due.is("behind forget() there is room", see.felt(3, 84), 1);
    }

    private static void forget() {
        due.of("SIGHTS go: how many there were.");
        HassockSee see = new HassockSee();
        due.is("none", see.forget(), 0);
        for (int n = 1; n <= 8; n++) {
            see.felt(0, 98);
        }
        due.is("eight", see.forget(), 8);
        due.is("none again", see.forget(), 0);
        due.is("all fit", see.fits(-1), 90);
    }

    private static void fits() {
        due.of("10 times a, and c, by which all SIGHTS are so: how many; the i-th (rising)");
        HassockSee see = new HassockSee();
        see.felt(8, 65);
        due.is("the first", see.fits(0), 29);
        due.is("the second", see.fits(1), 35);
        due.is("the third", see.fits(2), 41);
        due.is("behind the last", see.fits(3), NONE);
        see.felt(1, 96);
        due.is("by both: how many", see.fits(-1), 1);
        due.is("by both", see.fits(0), 35);
        due.is("behind it", see.fits(1), NONE);
        see.felt(1, 96);
        due.is("one twice", see.fits(0), 35);
    }

    private static void fitsNone() {
        due.of("FITS: how many (i = -1), the i-th; NONE");
        HassockSee see = new HassockSee();
        due.is("fits(89)", see.fits(89), 99);
        due.is("fits(90)", see.fits(90), NONE);
        due.is("fits(MAX)", see.fits(Integer.MAX_VALUE), NONE);
        see.felt(0, 0);
        due.is("how many", see.fits(-1), 0);
        due.is("fits(0)", see.fits(0), NONE);
        due.is("fits(89), nothing fits", see.fits(89), NONE);
    }

    private static void fitsBelow() {
        due.of("NONE (i below -1, too)");
        HassockSee see = new HassockSee();
        due.is("fits(-2)", see.fits(-2), NONE);
        due.is("fits(-3)", see.fits(-3), NONE);
        due.is("fits(MIN)", see.fits(Integer.MIN_VALUE), NONE);
        see.felt(0, 0);
        due.is("fits(-2), nothing fits", see.fits(-2), NONE);
    }

    private static void ask(HassockSee see, int sunday, int left) {
        due.is("ask(0)", see.ask(0), sunday);
        due.is("ask(1)", see.ask(1), left);
    }

    private static void ask() {
        due.of("the Sunday to ask about next, so that, whatever is felt, fewest of these are left at the most");
        HassockSee see = new HassockSee();
        // Behind 5, 5a and c: a and c, or one less and 5 more.
        ask(see, 5, 2);
        see.felt(8, 65);
        // 29, 35, 41: each another a.
        ask(see, 1, 1);
        see.forget();
        see.felt(60, 0);
        due.is("87 fit", see.fits(-1), 87);
        ask(see, 5, 2);
        see.forget();
        see.felt(11, 0);
        // 86 to 89, 90 to 99: behind 9, 99 has none left, and each other has another wool.
        ask(see, 9, 1);
        ask(see, 9, 1);
    }

    private static void askLeast() {
        due.of("fewest of these are left at the most: the least; how many");
        HassockSee see = new HassockSee();
        see.felt(3, 84);
        ask(see, 4, 1);
        see.felt(4, 99 - 20 - 9);
        due.is("one fits", see.fits(-1), 1);
        ask(see, 0, 1);
        for (int i = 3; i <= 8; i++) {
            see.felt(3, 84);
        }
        due.is("no sight more can be", see.felt(0, 99), FULL);
        ask(see, 0, 1);
    }

    private static void askNone() {
        due.of("ASK: the Sunday (what = 0, 0 to 60), how many (1); NONE: nothing fits.");
        HassockSee see = new HassockSee();
        see.felt(0, 98);
        ask(see, NONE, NONE);
        see.felt(0, 99);
        ask(see, NONE, NONE);
        see.forget();
        ask(see, 5, 2);
    }

    private static void askRefused() {
        due.of("NONE: nothing fits. OUTSIDE.");
        HassockSee see = new HassockSee();
        HassockSee none = new HassockSee();
        none.felt(0, 0);
        for (int what : Given.outside(0, 1)) {
            due.is("ask(" + what + ")", see.ask(what), OUTSIDE);
            due.is("ask(" + what + "), nothing fits", none.ask(what), OUTSIDE);
        }
    }

    private static void unpick(int pattern, int move) {
        String of = " of " + Integer.toBinaryString(pattern);
        HassockSee see = Given.first(50, pattern);
        due.is("unpick(0, 0)" + of, see.unpick(0, 0), move == NONE ? 0 : 1);
        due.is("unpick(0, 1)" + of, see.unpick(0, 1), move);
    }

    private static void unpickOneOrTwo() {
        due.of("two by turns unpick one, or two beside each other (0 and 1, and so on)");
        unpick(0b1, 1);
        unpick(0b10000000, 71);
        unpick(0b11, 2);
        unpick(0b11000000, 62);
        unpick(0b1010, NONE);
        unpick(0b10000001, NONE);
        unpick(0b111, 11);
        unpick(0b11100000, 61);
    }

    private static void unpickLost() {
        due.of("who can not has lost: whether who begins can win (1, 0)");
        unpick(0, NONE);
        unpick(0b1001, NONE);
        unpick(0b110011, NONE);
        unpick(0b1110111, NONE);
        unpick(0b11011010, 11);
    }

    private static void unpickLeast() {
        due.of("what he unpicks first for it: 10 times the (lower) STITCH, and how many (the least; NONE)");
        unpick(0b10101, 1);
        unpick(0b10011, 1);
        unpick(0b1111, 12);
        unpick(0b11111, 21);
        unpick(0b111111, 11);
        unpick(0b1111111, 12);
        unpick(0b11111111, 32);
    }

    private static void unpickNotInFact() {
        due.of("of a HASSOCK's STITCHES (none is unpicked in fact)");
        HassockSee see = Given.first(50, 255);
        see.unpick(0, 0);
        see.unpick(0, 1);
        due.is("stitches", see.told(30), 255);
        due.is("unpick(0, 1) again", see.unpick(0, 1), 32);
        due.says(see, "A*0");
        due.is("not behind the pad", see.unpick(0, 1), 32);
    }

    private static void unpickRefused() {
        due.of("UNKNOWN: it is not there; OUTSIDE.");
        HassockSee see = Given.only(1);
        for (int h : Given.NO_HASSOCKS) {
            due.is("unpick(" + h + ", 0)", see.unpick(h, 0), UNKNOWN);
        }
        for (int h = 1; h < 10; h++) {
            due.is("unpick(" + h + ", 0), gone", see.unpick(h, 0), UNKNOWN);
        }
        for (int what : Given.outside(0, 1)) {
            due.is("unpick(0, " + what + ")", see.unpick(0, what), OUTSIDE);
            due.is("unpick(1, " + what + "), gone", see.unpick(1, what), UNKNOWN);
        }
        due.is("unpick(0, 0)", see.unpick(0, 0), 0);
        due.is("unpick(0, 1)", see.unpick(0, 1), NONE);
    }

    private static void moths(int n, int m, int t, int what, long upper, long lower) {
        String call = "moths(" + n + ", " + m + ", " + t + ", " + what + ", ";
        HassockSee see = new HassockSee();
        due.is(call + "0)", see.moths(n, m, t, what, 0), upper);
        due.is(call + "1)", see.moths(n, m, t, what, 1), lower);
    }

    private static void mothsNone() {
        due.of("is eaten each of m years (0 to 16; n times m is 16 at most) with t tenths (0 to 10), by itself:"
                + " that none is left");
        moths(1, 1, 3, 0, 3, 10);
        moths(2, 1, 3, 0, 9, 100);
        moths(1, 2, 3, 0, 51, 100);
        moths(2, 2, 5, 0, 9, 16);
        moths(16, 1, 1, 0, 1, 10000000000000000L);
        moths(1, 16, 9, 0, 9999999999999999L, 10000000000000000L);
        moths(8, 2, 1, 0, 16983563041L, 10000000000000000L);
    }

    private static void mothsMean() {
        due.of("how many are in the mean");
        moths(1, 1, 3, 1, 7, 10);
        moths(2, 1, 3, 1, 7, 5);
        moths(1, 2, 3, 1, 49, 100);
        moths(16, 1, 1, 1, 72, 5);
        moths(1, 16, 9, 1, 1, 10000000000000000L);
        moths(8, 2, 1, 1, 162, 25);
        moths(4, 4, 5, 1, 1, 4);
    }

    private static void mothsEdges() {
        due.of("each of n STITCHES (0 to 16)");
        moths(0, 0, 5, 0, 1, 1);
        moths(0, 0, 5, 1, 0, 1);
        moths(0, 16, 0, 0, 1, 1);
        moths(0, 16, 10, 1, 0, 1);
        moths(16, 1, 5, 0, 1, 65536);
        moths(16, 1, 5, 1, 8, 1);
        due.of("each of m years (0 to 16; n times m is 16 at most)");
        moths(16, 0, 5, 0, 0, 1);
        moths(16, 0, 10, 1, 16, 1);
        moths(1, 0, 10, 0, 0, 1);
        moths(1, 16, 5, 0, 65535, 65536);
        moths(1, 16, 5, 1, 1, 65536);
        moths(4, 4, 10, 0, 1, 1);
        due.of("with t tenths (0 to 10)");
        moths(4, 4, 0, 0, 0, 1);
        moths(4, 4, 0, 1, 4, 1);
        moths(4, 4, 10, 1, 0, 1);
        moths(1, 1, 1, 0, 1, 10);
        moths(1, 1, 9, 0, 9, 10);
    }

    private static void mothsOutside() {
        due.of("OUTSIDE: n, m, n times m, t, what, part.");
        HassockSee see = new HassockSee();
        for (int v : Given.outside(0, 16)) {
            due.is("n " + v, see.moths(v, 0, 0, 0, 0), GONE_OUTSIDE);
            due.is("m " + v, see.moths(0, v, 0, 0, 0), GONE_OUTSIDE);
        }
        int[][] products = {{1, 17}, {17, 1}, {2, 9}, {9, 2}, {3, 6}, {16, 2}, {2, 16}, {16, 16}, {65536, 65536},
            {-1, -1}, {-4, 4}, {1 << 16, 1 << 15}, {Integer.MIN_VALUE, 2}, {2, Integer.MIN_VALUE}};
        for (int[] nm : products) {
            due.is("n " + nm[0] + ", m " + nm[1], see.moths(nm[0], nm[1], 5, 1, 0), GONE_OUTSIDE);
        }
        for (int t : Given.outside(0, 10)) {
            due.is("t " + t, see.moths(1, 1, t, 0, 0), GONE_OUTSIDE);
            due.is("t " + t + " of nothing", see.moths(0, 0, t, 0, 0), GONE_OUTSIDE);
        }
        for (int v : Given.outside(0, 1)) {
            due.is("what " + v, see.moths(1, 1, 1, v, 0), GONE_OUTSIDE);
            due.is("part " + v, see.moths(1, 1, 1, 0, v), GONE_OUTSIDE);
            due.is("part " + v + " of the mean", see.moths(1, 1, 1, 1, v), GONE_OUTSIDE);
        }
    }

    private static void book(HassockSee see, int seed, int many, int hair, int borders) {
        due.is("book(" + seed + ", 1, 0)", see.book(seed, 1, 0), many);
        due.is("book(" + seed + ", 1, 1)", see.book(seed, 1, 1), hair);
        due.is("book(" + seed + ", 1, 2)", see.book(seed, 1, 2), borders);
    }

    private static void bookSeed() {
        due.of("x, the seed at first, becomes (75 x and 74) left over by 65537");
        // Seed 0: x is 74, a year. Seed 9999: x is 29092, a union, but z is 363.
        book(new HassockSee(), 0, 10, 30, 0);
        book(new HassockSee(), 9999, 10, 20, 0);
        // Seed 872: x is 65474, of E a needle on stitch 2. Seed 873: x is 65549 less 65537, of C knees of 1.
        HassockSee see = new HassockSee();
        see.hassock(2, 3, 0);
        book(see, 872, 10, 20, 2);
        book(see, 873, 9, 20, 0);
    }

    private static void bookKnees() {
        due.of("0, 1 knees of 1 more than what z leaves over by 9");
        // Seed 2659: of I, 0, z 36. Seed 46: of E, 0, z 44. Seed 28: of E, 1, z 27. Seed 27: of J, 1, z 26.
        int[][] draws = {{2659, 8, 1}, {46, 4, 9}, {28, 4, 1}, {27, 9, 9}};
        for (int[] draw : draws) {
            HassockSee see = new HassockSee();
            see.hassock(draw[1], 3 * draw[2], 0);
            book(see, draw[0], 9, 20, 0);
            see.hassock(draw[1], 3 * draw[2] + 1, 0);
            book(see, draw[0], 10, 20, 0);
            see.gone(draw[1]);
            book(see, draw[0], 9, 20, 0);
        }
        HassockSee last = Given.only(256);
        last.hassock(8, 3, 255);
        book(last, 2659, 0, 20, 0);
    }

    private static void bookStuffed() {
        due.of("2 stuffed, 3, 4 a needle on STITCH z left over by 8");
        // Seed 10: x is 824, of E.
        book(new HassockSee(), 10, 10, 15, 0);
        HassockSee see = Given.withHair(5);
        book(see, 10, 10, 0, 0);
        see.hair(4);
        book(see, 10, 10, 4, 0);
        see.hair(5);
        see.hassock(4, 98, 0);
        book(see, 10, 10, 0, 0);
        see.hassock(4, 99, 0);
        book(see, 10, 10, 5, 0);
        see.gone(4);
        book(see, 10, 9, 5, 0);
    }

    private static void bookNeedle() {
        due.of("3, 4 a needle on STITCH z left over by 8");
        // Seed 8: 3, z 8. Seed 24: 3, z 23. Seed 102: 4, z 96. Seed 118: 4, z 111. All of E.
        int[][] draws = {{8, 1}, {24, 128}, {102, 1}, {118, 128}};
        for (int[] draw : draws) {
            HassockSee see = new HassockSee();
            book(see, draw[0], 10, 20, 2);
            see.hassock(4, 50, draw[1]);
            book(see, draw[0], 10, 20, 0);
            see.hassock(4, 50, 255 - draw[1]);
            book(see, draw[0], 10, 20, 16);
            see.gone(4);
            book(see, draw[0], 9, 20, 0);
        }
    }

    private static void bookUnion() {
        due.of("5 a union with HASSOCK z left over by 10, if z left over by 8 is 0");
        // Seed 51: x is 3899, of J, with I (z 48).
        HassockSee see = new HassockSee();
        see.hassock(8, 50, 3);
        see.hassock(9, 50, 4);
        book(see, 51, 9, 20, 3);
        see.gone(8);
        book(see, 51, 9, 20, 1);
        see.gone(9);
        book(see, 51, 8, 20, 0);
        see.hassock(8, 50, 3);
        book(see, 51, 9, 20, 2);
        // Seed 68: of E with E (z 64).
        book(new HassockSee(), 68, 10, 20, 0);
        // Left over are 1 to 7; each of J with another one.
        for (int seed : new int[] {35, 19, 3, 115, 99, 83, 67}) {
            book(new HassockSee(), seed, 10, 20, 0);
        }
    }

    private static void bookPlaces() {
        due.of("6 it changes PLACES with HASSOCK z left over by 10");
        // Seed 1: x is 149, of J, with B (z 1).
        HassockSee see = new HassockSee();
        see.hassock(9, 50, 255);
        book(see, 1, 10, 20, 16);
        see.gone(1);
        book(see, 1, 9, 20, 8);
        see.hassock(1, 50, 0);
        see.gone(9);
        book(see, 1, 9, 20, 0);
        // Seed 4400: of J, with J (z 29).
        see.hassock(9, 50, 255);
        book(see, 4400, 10, 20, 8);
        due.is("places are as before", see.told(19), 9);
    }

    private static void bookYear() {
        due.of("7 a year; each if that can be");
        // Seed 0: x is 74, of E: a year needs no hassock.
        book(Given.only(1007), 0, 9, 29, 0);
        book(Given.only(0), 0, 0, 20, 0);
        HassockSee full = Given.withHair(995);
        book(full, 0, 10, 999, 0);
        HassockSee moths = Given.first(19, 129);
        book(moths, 0, 10, 29, 1);
        HassockSee see = Given.inYear(98);
        due.is("year", see.told(3), 98);
        see.hassock(0, 50, 0);
        see.hair(20);
        book(see, 0, 10, 21, 0);
        see.say('.');
        see.done();
        see.hassock(0, 50, 0);
        see.hair(20);
        due.is("year, then", see.told(3), 99);
        book(see, 0, 10, 20, 0);
    }

    private static void bookActs() {
        due.of("A YEAR-BOOK by a seed (0 to 9999) of m ACTS (1 to 99)");
        HassockSee see = new HassockSee();
        PlainModel model = new PlainModel();
        for (int seed = 0; seed <= 9999; seed += 303) {
            for (int m : new int[] {1, 2, 98, 99}) {
                int what = seed % 2 + seed % 4 / 2;
                due.is("book(" + seed + ", " + m + ", " + what + ")", see.book(seed, m, what),
                        model.book(seed, m, what));
            }
        }
        // Seed 9999: x is 29092, a union that is none, but counts; then 19253, a union of D with A (z 240).
        HassockSee one = new HassockSee();
        due.is("a draw of nothing", one.book(9999, 1, 0), 10);
        due.is("the next draw", one.book(9999, 2, 0), 9);
    }

    private static void bookFromAllAsItIs() {
        due.of("from all as it is: x, the seed at first");
        HassockSee see = Given.first(19, 128);
        see.hair(7);
        due.says(see, "B$C*3");
        book(see, 0, 10, 16, 0);
        due.of("Nothing is DONE in fact.");
        due.is("hair", see.told(2), 7);
        due.is("year", see.told(3), 0);
        due.is("stitches", see.told(30), 128);
        due.is("wool", see.told(21), 50);
        due.is("signs", see.told(0), 5);
        due.is("the pad", see.see(0), 17);
        due.is("the next year-book is the same", see.book(0, 1, 1), 16);
    }

    private static void bookOutside() {
        due.of("A YEAR-BOOK: how many (what = 0), HAIR (1), BORDERS (2). OUTSIDE.");
        HassockSee see = new HassockSee();
        for (int seed : Given.outside(0, 9999)) {
            due.is("book(" + seed + ", 1, 0)", see.book(seed, 1, 0), OUTSIDE);
        }
        for (int m : Given.outside(1, 99)) {
            due.is("book(0, " + m + ", 0)", see.book(0, m, 0), OUTSIDE);
        }
        for (int what : Given.outside(0, 2)) {
            due.is("book(0, 1, " + what + ")", see.book(0, 1, what), OUTSIDE);
        }
    }

    private static void imageOfAllButThePad() {
        due.of("All but the PAD is kept in an IMAGE (0, 1): 1. OUTSIDE.");
        HassockSee see = Given.first(7, 3);
        see.gone(9);
        see.swap(1, 2);
        see.hair(0);
        see.say('.');
        see.done();
        see.felt(3, 84);
        due.says(see, "A1");
        due.is("image(0)", see.image(0), 1);
        see.hassock(0, 8, 4);
        see.hassock(9, 8, 4);
        see.swap(1, 8);
        see.hair(500);
        due.says(see, ".");
        see.done();
        see.forget();
        see.felt(4, 0);
        see.felt(5, 0);
        due.says(see, "B");
        due.is("restore(0)", see.restore(0), 1);
        due.is("wool", see.told(20), 7);
        due.is("stitches", see.told(30), 1);
        due.is("who", see.told(1), 511);
        due.is("place of B", see.told(11), 2);
        due.is("place of C", see.told(12), 1);
        due.is("place of I", see.told(18), 8);
        due.is("hair", see.told(2), 8);
        due.is("year", see.told(3), 1);
        due.is("sights", see.told(4), 1);
        due.is("what was felt", see.fits(0), 50);
        due.is("the pad is as it is now", see.told(0), 1);
        due.is("its fault, too", see.fault(), 1);
        for (int k : Given.outside(0, 1)) {
            due.is("image(" + k + ")", see.image(k), OUTSIDE);
        }
    }

    private static void images() {
        due.of("is kept in an IMAGE (0, 1)");
        HassockSee see = new HassockSee();
        see.hair(1);
        see.image(0);
        see.hair(2);
        see.image(1);
        see.hair(3);
        see.restore(0);
        due.is("the first", see.told(2), 1);
        see.restore(1);
        due.is("the second", see.told(2), 2);
        see.hair(4);
        due.is("the first anew", see.image(0), 1);
        see.restore(1);
        due.is("the second stays", see.told(2), 2);
        see.restore(0);
        due.is("the first, as anew", see.told(2), 4);
    }

    private static void restoreRefused() {
        due.of("It is as it was when it was kept: 1. OUTSIDE; STATE: it was not.");
        HassockSee see = new HassockSee();
        due.is("restore(0)", see.restore(0), STATE);
        due.is("restore(1)", see.restore(1), STATE);
        for (int k : Given.outside(0, 1)) {
            due.is("restore(" + k + ")", see.restore(k), OUTSIDE);
        }
        see.image(1);
        due.is("restore(0), the other was", see.restore(0), STATE);
        due.is("restore(1), it was", see.restore(1), 1);
        see.image(0);
        due.is("restore(0), it was", see.restore(0), 1);
        due.is("of another object", new HassockSee().restore(0), STATE);
    }

    private static void restoreStaysKept() {
        due.of("It is as it was when it was kept");
        HassockSee see = new HassockSee();
        see.image(0);
        for (int i = 0; i < 3; i++) {
            see.hassock(0, 9, 9);
            see.gone(5);
            see.hair(0);
            see.felt(0, 0);
            see.swap(0, 5);
            due.is("restore(0)", see.restore(0), 1);
            due.is("wool", see.told(20), 50);
            due.is("who", see.told(1), 1023);
            due.is("hair", see.told(2), 20);
            due.is("sights", see.told(4), 0);
            due.is("place", see.told(10), 0);
        }
    }

    private static void toldOutside() {
        due.of("0 signs, 1 who are there (bits), 2 HAIR, 3 the year, 4 SIGHTS");
        HassockSee see = Given.text(due, "x".repeat(60));
        due.is("signs", see.told(0), 60);
        due.is("who", see.told(1), 1023);
        due.is("hair", see.told(2), 20);
        due.is("year", see.told(3), 0);
        due.is("sights", see.told(4), 0);
        for (int what : new int[] {5, 6, 7, 8, 9, 40, 41, 49, 50, 100}) {
            due.is("told(" + what + ")", see.told(what), OUTSIDE);
        }
        for (int what : Given.outside(0, 39)) {
            due.is("told(" + what + ")", see.told(what), OUTSIDE);
        }
    }

    private static void toldOfHassocks() {
        due.of("10 and a HASSOCK: its PLACE; 20 and a HASSOCK that is there: WOOL; 30 and likewise: STITCHES."
                + " OUTSIDE.");
        HassockSee see = new HassockSee();
        for (int h = 0; h < 10; h++) {
            see.hassock(h, 11 * h + (h == 0 ? 1 : 0), 20 * h + 3);
        }
        for (int h = 0; h < 10; h++) {
            due.is("place of " + h, see.told(10 + h), h);
            due.is("wool of " + h, see.told(20 + h), 11 * h + (h == 0 ? 1 : 0));
            due.is("stitches of " + h, see.told(30 + h), 20 * h + 3);
        }
        for (int h = 0; h < 10; h++) {
            see.gone(h);
            due.is("place of " + h + ", gone", see.told(10 + h), h);
            due.is("wool of " + h + ", gone", see.told(20 + h), OUTSIDE);
            due.is("stitches of " + h + ", gone", see.told(30 + h), OUTSIDE);
        }
    }
}

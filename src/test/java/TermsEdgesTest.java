import java.util.function.ToLongFunction;

/** The first rows of 'Terms', sentence by sentence: what refused calls answer, in which order; fractions; sets. */
public final class TermsEdgesTest {
    private static final int UNKNOWN = Given.UNKNOWN, OUTSIDE = Given.OUTSIDE, STATE = Given.STATE, FULL = Given.FULL,
            NO = Given.NO, NONE = Given.NONE;
    private static final long GONE_OUTSIDE = -1000000000000000002L;

    /** What stands on the pad of a busy object. */
    private static final String WHOLE = "A+B1.", FAULTY = "A+B1.K", IMPOSSIBLE = "A+G1.", BOTH = "A+G1.K",
            LONG = "A+B1." + ".".repeat(55);

    private static final Due due = new Due();

    private TermsEdgesTest() {
    }

    public static void main(String[] args) {
        constants();
        unknownBeforeOutside();
        unknownBeforeNo();
        unknownBeforeState();
        outsideBeforeNo();
        outsideBeforeState();
        outsideBeforeFull();
        noBeforeState();
        refusedOfHassocksChangeNothing();
        refusedOfYearsChangeNothing();
        refusedOfRowsChangeNothing();
        refusedOfWearChangeNothing();
        fullChangesNothing();
        stateOfImagesChangesNothing();
        signsChangeTheFault();
        refusedSignsDoNot();
        lowestTerms();
        parts();
        refusedFractions();
        sets();
        askingChangesNothing();
        callsAnObjectServes();
        due.end("TermsEdgesTest");
    }

    private static void constants() {
        due.of("What refused calls answer; NONE: there is none.");
        due.is("UNKNOWN", HassockSee.UNKNOWN, -1);
        due.is("OUTSIDE", HassockSee.OUTSIDE, -2);
        due.is("STATE", HassockSee.STATE, -3);
        due.is("FULL", HassockSee.FULL, -4);
        due.is("NO", HassockSee.NO, -5);
        due.is("NONE", HassockSee.NONE, -6);
        due.of("What is told of fractions that are refused: GONE and the refusal.");
        due.is("GONE", HassockSee.GONE, -1000000000000000000L);
    }

    private static void unknownBeforeOutside() {
        due.of("the first of these that fits: UNKNOWN -1 (there is no such HASSOCK), OUTSIDE -2");
        HassockSee see = Given.only(0b1111111110);
        for (int h : Given.NO_HASSOCKS) {
            due.is("hassock(" + h + ", 0, 0)", see.hassock(h, 0, 0), UNKNOWN);
            due.is("hassock(" + h + ", 1, 256)", see.hassock(h, 1, 256), UNKNOWN);
            due.is("behind(" + h + ", 4)", see.behind(h, 4), UNKNOWN);
            due.is("unpick(" + h + ", 2)", see.unpick(h, 2), UNKNOWN);
        }
        due.is("unpick(0, -1), A is gone", see.unpick(0, -1), UNKNOWN);
        due.is("unpick(1, -1), B is there", see.unpick(1, -1), OUTSIDE);
    }

    private static void unknownBeforeNo() {
        due.of("the first of these that fits: UNKNOWN -1 (there is no such HASSOCK), OUTSIDE -2 (another number is"
                + " not as told), NO -5 (as told)");
        HassockSee see = Given.text(due, "A");
        due.is("behind(10, 0)", see.behind(10, 0), UNKNOWN);
        due.is("behind(-1, 0)", see.behind(-1, 0), UNKNOWN);
        due.is("behind(9, 0)", see.behind(9, 0), NO);
    }

    private static void unknownBeforeState() {
        due.of("NO -5 (as told), STATE -3 (as told)");
        HassockSee see = Given.text(due, "A&A");
        due.is("behind(10, 0)", see.behind(10, 0), UNKNOWN);
        due.is("behind(-1, 0)", see.behind(-1, 0), UNKNOWN);
        due.is("behind(9, 0)", see.behind(9, 0), STATE);
    }

    private static void outsideBeforeNo() {
        due.of("OUTSIDE -2 (another number is not as told), NO -5 (as told)");
        HassockSee see = Given.text(due, "A");
        due.is("judge(3)", see.judge(3), OUTSIDE);
        due.is("judge(-1)", see.judge(-1), OUTSIDE);
        due.is("behind(0, 4)", see.behind(0, 4), OUTSIDE);
        due.is("behind(0, -1)", see.behind(0, -1), OUTSIDE);
        due.is("see(4)", see.see(4), OUTSIDE);
        due.is("see(-1)", see.see(-1), OUTSIDE);
        due.is("swept(2)", see.swept(2), OUTSIDE);
        due.is("swept(-1)", see.swept(-1), OUTSIDE);
    }

    private static void outsideBeforeState() {
        due.of("OUTSIDE -2 (another number is not as told), NO -5 (as told), STATE -3 (as told)");
        HassockSee see = Given.text(due, "A&A");
        due.is("judge(3)", see.judge(3), OUTSIDE);
        due.is("behind(0, 4)", see.behind(0, 4), OUTSIDE);
        due.is("see(4)", see.see(4), OUTSIDE);
        due.is("swept(2)", see.swept(2), OUTSIDE);
        due.is("restore(2), nothing was kept", see.restore(2), OUTSIDE);
        due.is("restore(-1), nothing was kept", see.restore(-1), OUTSIDE);
    }

    private static void outsideBeforeFull() {
        due.of("STATE -3 (as told), FULL -4");
        HassockSee see = Given.text(due, ".".repeat(60));
        for (int i = 0; i < 8; i++) {
            see.felt(0, 99);
        }
        due.is("say(32) on a full pad", see.say(32), OUTSIDE);
        due.is("say(127) on a full pad", see.say(127), OUTSIDE);
        due.is("say(33) on a full pad", see.say(33), FULL);
        due.is("felt(61, 0) behind 8", see.felt(61, 0), OUTSIDE);
        due.is("felt(0, 100) behind 8", see.felt(0, 100), OUTSIDE);
        due.is("felt(0, 99) behind 8", see.felt(0, 99), FULL);
    }

    private static void noBeforeState() {
        due.of("NO -5 (as told), STATE -3 (as told)");
        HassockSee see = Given.text(due, "A&AK");
        due.is("judge(0)", see.judge(0), NO);
        due.is("judge(1)", see.judge(1), NO);
        due.is("judge(2)", see.judge(2), NO);
        due.is("behind(0, 0)", see.behind(0, 0), NO);
        due.is("see(0)", see.see(0), NO);
        due.is("swept(0)", see.swept(0), NO);
        due.is("done()", see.done(), NO);
        see = Given.text(due, "A&AB");
        due.is("judge(2), a sign must come", see.judge(2), NO);
        due.is("done(), a sign must come", see.done(), NO);
    }

    /** G is gone; two images, a year, places, hair and sights that are not as at first. */
    private static HassockSee busy(String text) {
        HassockSee see = new HassockSee();
        see.hassock(1, 30, 0b1100);
        see.image(0);
        see.hassock(0, 70, 0b101);
        see.hassock(2, 19, 0b11000011);
        see.gone(6);
        see.swap(1, 8);
        see.hair(77);
        see.felt(3, 87);
        see.image(1);
        see.say('.');
        see.done();
        see.felt(8, 59);
        due.says(see, text);
        return see;
    }

    /** All that can be asked; the images are brought back at the end. */
    private static String all(HassockSee see) {
        StringBuilder text = new StringBuilder();
        nowAndBehind(see, text);
        text.append(" first ").append(see.restore(0));
        inFact(see, text);
        text.append(" second ").append(see.restore(1));
        inFact(see, text);
        return text.toString();
    }

    private static void nowAndBehind(HassockSee see, StringBuilder text) {
        inFact(see, text);
        text.append(" fault ").append(see.fault());
        for (int what = 0; what < 3; what++) {
            text.append(" judge ").append(see.judge(what));
        }
        for (int what = 0; what < 4; what++) {
            text.append(" see ").append(see.see(what));
        }
        for (int h = 0; h < 10; h++) {
            text.append(" behind ").append(see.behind(h, 1)).append(' ').append(see.behind(h, 2));
            text.append(' ').append(see.behind(h, 3));
        }
    }

    private static void inFact(HassockSee see, StringBuilder text) {
        for (int what = 0; what < 40; what++) {
            text.append(' ').append(see.told(what));
        }
        text.append(" fits");
        for (int i = -1; i < 3; i++) {
            text.append(' ').append(see.fits(i));
        }
    }

    private static void refused(String text, String call, ToLongFunction<HassockSee> ask, long refusal) {
        HassockSee see = busy(text);
        due.is(call + " of " + text, ask.applyAsLong(see), refusal);
        due.holds(call + " of " + text + " changes nothing", all(see).equals(all(busy(text))));
    }

    private static void refusedOfHassocksChangeNothing() {
        due.of("They change nothing");
        for (int h : Given.NO_HASSOCKS) {
            refused(WHOLE, "hassock(" + h + ", 5, 5)", see -> see.hassock(h, 5, 5), UNKNOWN);
            refused(WHOLE, "gone(" + h + ")", see -> see.gone(h), UNKNOWN);
            refused(WHOLE, "swap(" + h + ", 3)", see -> see.swap(h, 3), UNKNOWN);
            refused(WHOLE, "swap(3, " + h + ")", see -> see.swap(3, h), UNKNOWN);
            refused(WHOLE, "swap(" + h + ", " + h + ")", see -> see.swap(h, h), UNKNOWN);
        }
        refused(WHOLE, "gone(6)", see -> see.gone(6), UNKNOWN);
        refused(WHOLE, "swap(3, 3)", see -> see.swap(3, 3), UNKNOWN);
        for (int wool : Given.outside(1, 99)) {
            refused(WHOLE, "hassock(6, " + wool + ", 5)", see -> see.hassock(6, wool, 5), OUTSIDE);
            refused(WHOLE, "hassock(0, " + wool + ", 5)", see -> see.hassock(0, wool, 5), OUTSIDE);
        }
        for (int stitches : Given.outside(0, 255)) {
            refused(WHOLE, "hassock(6, 5, " + stitches + ")", see -> see.hassock(6, 5, stitches), OUTSIDE);
            refused(WHOLE, "hassock(0, 5, " + stitches + ")", see -> see.hassock(0, 5, stitches), OUTSIDE);
        }
        for (int hair : Given.outside(0, 999)) {
            refused(WHOLE, "hair(" + hair + ")", see -> see.hair(hair), OUTSIDE);
        }
        for (int sign : Given.outside(33, 126)) {
            refused(WHOLE, "say(" + sign + ")", see -> see.say(sign), OUTSIDE);
        }
    }

    private static void refusedOfYearsChangeNothing() {
        due.of("They change nothing");
        for (String text : new String[] {WHOLE, FAULTY, IMPOSSIBLE, BOTH}) {
            refused(text, "judge(3)", see -> see.judge(3), OUTSIDE);
            refused(text, "behind(10, 0)", see -> see.behind(10, 0), UNKNOWN);
            refused(text, "behind(0, 4)", see -> see.behind(0, 4), OUTSIDE);
            refused(text, "see(4)", see -> see.see(4), OUTSIDE);
            refused(text, "swept(2)", see -> see.swept(2), OUTSIDE);
        }
        for (String text : new String[] {FAULTY, BOTH}) {
            refused(text, "judge(0)", see -> see.judge(0), NO);
            refused(text, "judge(1)", see -> see.judge(1), NO);
        }
        for (String text : new String[] {FAULTY, IMPOSSIBLE, BOTH}) {
            int refusal = text.equals(IMPOSSIBLE) ? STATE : NO;
            refused(text, "judge(2)", see -> see.judge(2), refusal);
            refused(text, "behind(0, 0)", see -> see.behind(0, 0), refusal);
            refused(text, "see(0)", see -> see.see(0), refusal);
            refused(text, "swept(0)", see -> see.swept(0), refusal);
            refused(text, "done()", see -> see.done(), refusal);
        }
    }

    private static void refusedOfRowsChangeNothing() {
        due.of("They change nothing");
        for (int what : Given.outside(0, 1)) {
            refused(WHOLE, "row(" + what + ")", see -> see.row(what), OUTSIDE);
            refused(WHOLE, "most(1, " + what + ")", see -> see.most(1, what), OUTSIDE);
            refused(WHOLE, "pile(" + what + ")", see -> see.pile(what), OUTSIDE);
        }
        for (int set : Given.outside(1, 255)) {
            refused(WHOLE, "most(" + set + ", 0)", see -> see.most(set, 0), OUTSIDE);
        }
    }

    private static void refusedOfWearChangeNothing() {
        due.of("They change nothing");
        for (int sundays : Given.outside(0, 60)) {
            refused(WHOLE, "felt(" + sundays + ", 5)", see -> see.felt(sundays, 5), OUTSIDE);
        }
        for (int v : Given.outside(0, 99)) {
            refused(WHOLE, "felt(5, " + v + ")", see -> see.felt(5, v), OUTSIDE);
        }
        for (int k : Given.outside(0, 1)) {
            refused(WHOLE, "ask(" + k + ")", see -> see.ask(k), OUTSIDE);
            refused(WHOLE, "unpick(0, " + k + ")", see -> see.unpick(0, k), OUTSIDE);
            refused(WHOLE, "image(" + k + ")", see -> see.image(k), OUTSIDE);
            refused(WHOLE, "restore(" + k + ")", see -> see.restore(k), OUTSIDE);
            refused(WHOLE, "moths(1, 1, 1, " + k + ", 0)", see -> see.moths(1, 1, 1, k, 0), GONE_OUTSIDE);
        }
        refused(WHOLE, "unpick(6, 0)", see -> see.unpick(6, 0), UNKNOWN);
        refused(WHOLE, "unpick(10, 0)", see -> see.unpick(10, 0), UNKNOWN);
        refused(WHOLE, "book(10000, 1, 0)", see -> see.book(10000, 1, 0), OUTSIDE);
        refused(WHOLE, "book(0, 100, 0)", see -> see.book(0, 100, 0), OUTSIDE);
        refused(WHOLE, "book(0, 1, 3)", see -> see.book(0, 1, 3), OUTSIDE);
        refused(WHOLE, "told(40)", see -> see.told(40), OUTSIDE);
        refused(WHOLE, "told(26)", see -> see.told(26), OUTSIDE);
    }

    private static void fullChangesNothing() {
        due.of("They change nothing");
        refused(LONG, "say('.')", see -> see.say('.'), FULL);
        refused(LONG, "say('x')", see -> see.say('x'), FULL);
        HassockSee see = new HassockSee();
        for (int i = 0; i < 8; i++) {
            see.felt(3, 84);
        }
        due.is("felt(3, 81) behind 8", see.felt(3, 81), FULL);
        due.is("sights", see.told(4), 8);
        due.is("how many fit", see.fits(-1), 10);
        due.is("the first that fits", see.fits(0), 50);
    }

    private static void stateOfImagesChangesNothing() {
        due.of("They change nothing");
        HassockSee see = Given.first(7, 3);
        see.felt(3, 84);
        see.hair(5);
        due.is("restore(0)", see.restore(0), STATE);
        due.is("restore(1)", see.restore(1), STATE);
        due.is("wool", see.told(20), 7);
        due.is("stitches", see.told(30), 3);
        due.is("sights", see.told(4), 1);
        due.is("hair", see.told(2), 5);
        see.image(1);
        see.hassock(0, 8, 3);
        due.is("restore(0), the other was kept", see.restore(0), STATE);
        due.is("wool, then", see.told(20), 8);
    }

    private static void signsChangeTheFault() {
        due.of("a sign that is said changes what fault() tells");
        HassockSee see = new HassockSee();
        due.is("of no sign", see.fault(), NONE);
        see.say('A');
        due.is("of A", see.fault(), 1);
        see.say('&');
        due.is("of A&", see.fault(), 2);
        see.say('J');
        due.is("of A&J", see.fault(), NONE);
        see.say('J');
        due.is("of A&JJ", see.fault(), 4);
        see.say('J');
        due.is("of A&JJJ", see.fault(), 4);
        see.say('1');
        due.is("of A&JJJ1: the first stays", see.fault(), 4);
    }

    private static void refusedSignsDoNot() {
        due.of("They change nothing (a sign that is said changes what fault() tells)");
        HassockSee see = Given.text(due, "A");
        see.say(32);
        due.is("fault behind say(32)", see.fault(), 1);
        see.say('1');
        due.is("a sign comes behind it", see.fault(), NONE);
        see = Given.text(due, ".".repeat(60));
        see.say('x');
        due.is("fault behind a sign too many", see.fault(), NONE);
        see = Given.text(due, ".".repeat(59) + "A");
        see.say('1');
        due.is("no sign too many mends it", see.fault(), 60);
    }

    private static void lowestTerms() {
        due.of("Fractions are told in lowest terms");
        fraction(1, 1, 2, 0, 1, 5);
        fraction(1, 1, 5, 0, 1, 2);
        fraction(1, 1, 5, 1, 1, 2);
        fraction(5, 1, 8, 1, 1, 1);
        fraction(1, 1, 10, 0, 1, 1);
        fraction(1, 1, 0, 0, 0, 1);
        fraction(1, 1, 10, 1, 0, 1);
        fraction(0, 5, 5, 1, 0, 1);
        fraction(16, 1, 5, 1, 8, 1);
        fraction(16, 1, 3, 1, 56, 5);
        fraction(2, 8, 5, 0, 65025, 65536);
    }

    private static void fraction(int n, int m, int t, int what, long upper, long lower) {
        String call = "moths(" + n + ", " + m + ", " + t + ", " + what + ", ";
        HassockSee see = new HassockSee();
        due.is(call + "0)", see.moths(n, m, t, what, 0), upper);
        due.is(call + "1)", see.moths(n, m, t, what, 1), lower);
    }

    private static void parts() {
        due.of("by part: 0 the upper, 1 the lower number");
        HassockSee see = new HassockSee();
        due.is("the upper", see.moths(1, 1, 3, 0, 0), 3);
        due.is("the lower", see.moths(1, 1, 3, 0, 1), 10);
        for (int part : Given.outside(0, 1)) {
            due.is("part " + part, see.moths(1, 1, 3, 0, part), GONE_OUTSIDE);
        }
    }

    private static void refusedFractions() {
        due.of("refused with GONE and the refusal");
        HassockSee see = new HassockSee();
        due.is("moths(17, 0, 0, 0, 0)", see.moths(17, 0, 0, 0, 0), HassockSee.GONE + HassockSee.OUTSIDE);
        due.is("moths(17, 17, 11, 2, 2)", see.moths(17, 17, 11, 2, 2), GONE_OUTSIDE);
        due.is("moths(-1, -1, -1, -1, -1)", see.moths(-1, -1, -1, -1, -1), GONE_OUTSIDE);
    }

    private static void sets() {
        due.of("Sets are bits.");
        HassockSee see = Given.only(0b1000000001);
        due.is("who are there: A and J", see.told(1), 513);
        due.is("who are there behind nothing", see.see(1), 513);
        due.is("who are in a pile", see.pile(1), 513);
        see.hassock(9, 50, 0b10000001);
        due.is("stitches 0 and 7", see.told(39), 129);
        due.is("the highest alone", see.most(128, 1), 1);
        due.is("the lowest alone", see.most(1, 1), 1);
        due.is("those between", see.most(126, 1), 0);
    }

    private static void askingChangesNothing() {
        due.of("Nothing is DONE in fact.");
        HassockSee see = busy(WHOLE);
        see.row(0);
        see.most(255, 0);
        see.pile(1);
        see.ask(0);
        see.unpick(0, 1);
        see.moths(4, 4, 4, 0, 0);
        see.book(7, 99, 2);
        see.borders();
        see.swept(0);
        due.holds("asking changes nothing", all(see).equals(all(busy(WHOLE))));
    }

    private static void callsAnObjectServes() {
        due.of("An object is used for at most 512 calls after it has been made");
        HassockSee see = new HassockSee();
        for (int call = 1; call < 512; call++) {
            due.is("hair(" + call + "), as call " + call, see.hair(call), call == 1 ? 20 : call - 1);
        }
        due.is("told(2), as call 512", see.told(2), 511);
    }
}

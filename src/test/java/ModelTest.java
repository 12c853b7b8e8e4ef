import java.util.Random;

/** Long runs of calls, drawn by fixed seeds, on the class and on the plain model at once. */
public final class ModelTest {
    private static final int RUNS = 400;
    private static final int CALLS = 512;

    private final Random draw;
    private final Due due;
    private final HassockSee see = new HassockSee();
    private final PlainModel model = new PlainModel();
    private final String run;
    /** Few hassocks, so that trying all rows and unions is soon over. */
    private final int few;

    private ModelTest(int seed, Due due) {
        draw = new Random(seed);
        this.due = due;
        run = "run " + seed + ": ";
        few = 2 + draw.nextInt(9);
    }

    public static void main(String[] args) {
        Due due = new Due();
        allMoths(due);
        allPatterns(due);
        allBooks(due);
        allSights(due);
        for (int seed = 1; seed <= RUNS; seed++) {
            new ModelTest(seed, due).goOn();
        }
        due.end("ModelTest");
    }

    private static void allMoths(Due due) {
        HassockSee see = new HassockSee();
        PlainModel model = new PlainModel();
        for (int n = -1; n <= 17; n++) {
            for (int m = -1; m <= 17; m++) {
                for (int i = 0; i < 13 * 4; i++) {
                    int t = i / 4 - 1;
                    due.is("moths(" + n + ", " + m + ", " + t + ", " + i / 2 % 2 + ", " + i % 2 + ")",
                            see.moths(n, m, t, i / 2 % 2, i % 2), model.moths(n, m, t, i / 2 % 2, i % 2));
                }
            }
        }
    }

    private static void allPatterns(Due due) {
        HassockSee see = new HassockSee();
        PlainModel model = new PlainModel();
        for (int pattern = 0; pattern <= 255; pattern++) {
            see.hassock(4, 9, pattern);
            model.hassock(4, 9, pattern);
            due.is("unpick(4, 0) of " + pattern, see.unpick(4, 0), model.unpick(4, 0));
            due.is("unpick(4, 1) of " + pattern, see.unpick(4, 1), model.unpick(4, 1));
        }
    }

    private static void allBooks(Due due) {
        HassockSee see = new HassockSee();
        PlainModel model = new PlainModel();
        for (int seed = 0; seed <= 9999; seed += 7) {
            int m = 1 + seed % 99;
            for (int what = 0; what < 3; what++) {
                due.is("book(" + seed + ", " + m + ", " + what + ")", see.book(seed, m, what),
                        model.book(seed, m, what));
            }
        }
    }

    private static void allSights(Due due) {
        for (int sundays = 0; sundays <= 60; sundays++) {
            for (int v = 0; v <= 99; v++) {
                HassockSee see = new HassockSee();
                PlainModel model = new PlainModel();
                String sight = "(" + sundays + ", " + v + "): ";
                due.is("felt" + sight, see.felt(sundays, v), model.felt(sundays, v));
                due.is(sight + "fits(-1)", see.fits(-1), model.fits(-1));
                due.is(sight + "fits(0)", see.fits(0), model.fits(0));
                due.is(sight + "ask(0)", see.ask(0), model.ask(0));
                due.is(sight + "ask(1)", see.ask(1), model.ask(1));
            }
        }
    }

    private void goOn() {
        for (int h = few; h < 10; h++) {
            due.is(run + "gone(" + h + ")", see.gone(h), model.gone(h));
        }
        for (int calls = 10 - few; calls < CALLS; ) {
            calls += draw.nextInt(3) == 0 ? sayAct() : callOne();
        }
    }

    /** Mostly from 0 to the bound, at times outside of it. */
    private int upTo(int bound) {
        int one = draw.nextInt(40);
        if (one == 0) {
            return -1 - draw.nextInt(3);
        }
        if (one == 1) {
            return bound + 1 + draw.nextInt(3);
        }
        return draw.nextInt(50) == 0 ? draw.nextInt() : draw.nextInt(bound + 1);
    }

    private int someHassock() {
        return draw.nextInt(20) == 0 ? upTo(9) : draw.nextInt(few);
    }

    private String letter() {
        int h = draw.nextInt(few);
        for (int i = 0; i < 4 && (model.present() >> h & 1) == 0; i++) {
            h = draw.nextInt(10);
        }
        return "" + (char) ('A' + h);
    }

    private int sayAct() {
        String who = letter();
        String[] acts = {who + (1 + draw.nextInt(9)), who + "+", who + "*" + draw.nextInt(8), who + "&" + letter(),
            who + "=" + letter(), who + "$", ".", "."};
        String act = acts[draw.nextInt(acts.length)];
        if (draw.nextInt(30) == 0) {
            act = act.substring(0, draw.nextInt(act.length())) + (char) (33 + draw.nextInt(94));
        }
        for (int i = 0; i < act.length(); i++) {
            due.is(run + "say", see.say(act.charAt(i)), model.say(act.charAt(i)));
        }
        due.is(run + "fault()", see.fault(), model.fault());
        return 1 + act.length();
    }

    private int callOne() {
        switch (draw.nextInt(24)) {
            case 0:
            case 1:
            case 2:
                change();
                break;
            case 3:
                due.is(run + "wipe()", see.wipe(), model.wipe());
                break;
            case 4:
            case 5:
            case 6:
            case 7:
                askYears();
                break;
            case 8:
                due.is(run + "done()", see.done(), model.done());
                break;
            case 9:
            case 10:
            case 11:
            case 12:
                askNow();
                break;
            case 13:
            case 14:
            case 15:
                askWear();
                break;
            case 16:
                int k = upTo(1);
                due.is(run + "image(" + k + ")", see.image(k), model.image(k));
                break;
            case 17:
                int back = upTo(1);
                due.is(run + "restore(" + back + ")", see.restore(back), model.restore(back));
                break;
            default:
                int what = upTo(40);
                due.is(run + "told(" + what + ")", see.told(what), model.told(what));
                break;
        }
        return 1;
    }

    private void change() {
        int h = someHassock();
        switch (draw.nextInt(8)) {
            case 0:
                due.is(run + "gone(" + h + ")", see.gone(h), model.gone(h));
                break;
            case 1:
                int hair = draw.nextInt(3) == 0 ? upTo(999) : upTo(12);
                due.is(run + "hair(" + hair + ")", see.hair(hair), model.hair(hair));
                break;
            case 2:
            case 3:
                int other = someHassock();
                due.is(run + "swap(" + h + ", " + other + ")", see.swap(h, other), model.swap(h, other));
                break;
            default:
                int wool = draw.nextInt(2) == 0 ? upTo(99) : 15 + draw.nextInt(50);
                int stitches = draw.nextInt(2) == 0 ? upTo(255) : draw.nextInt(256) & draw.nextInt(256);
                due.is(run + "hassock(" + h + ", " + wool + ", " + stitches + ")", see.hassock(h, wool, stitches),
                        model.hassock(h, wool, stitches));
                break;
        }
    }

    private void askYears() {
        int h = someHassock();
        int what = upTo(3);
        switch (draw.nextInt(4)) {
            case 0:
                due.is(run + "judge(" + what + ")", see.judge(what), model.judge(what));
                break;
            case 1:
                due.is(run + "behind(" + h + ", " + what + ")", see.behind(h, what), model.behind(h, what));
                break;
            case 2:
                due.is(run + "see(" + what + ")", see.see(what), model.see(what));
                break;
            default:
                due.is(run + "swept(" + what + ")", see.swept(what), model.swept(what));
                break;
        }
    }

    private void askNow() {
        int what = upTo(1);
        switch (draw.nextInt(6)) {
            case 0:
                due.is(run + "borders()", see.borders(), model.borders());
                break;
            case 1:
                due.is(run + "row(" + what + ")", see.row(what), model.row(what));
                break;
            case 2:
                int set = draw.nextInt(2) == 0 ? upTo(255) : 1 + draw.nextInt(15);
                due.is(run + "most(" + set + ", " + what + ")", see.most(set, what), model.most(set, what));
                break;
            case 3:
                due.is(run + "pile(" + what + ")", see.pile(what), model.pile(what));
                break;
            case 4:
                int h = someHassock();
                due.is(run + "unpick(" + h + ", " + what + ")", see.unpick(h, what), model.unpick(h, what));
                break;
            default:
                int seed = upTo(9999);
                int m = upTo(99);
                due.is(run + "book(" + seed + ", " + m + ", " + what + ")", see.book(seed, m, what),
                        model.book(seed, m, what));
                break;
        }
    }

    private void askWear() {
        switch (draw.nextInt(5)) {
            case 0:
                int i = upTo(90) - 1;
                due.is(run + "fits(" + i + ")", see.fits(i), model.fits(i));
                break;
            case 1:
                due.is(run + "fits(-1)", see.fits(-1), model.fits(-1));
                break;
            case 2:
                int what = upTo(1);
                due.is(run + "ask(" + what + ")", see.ask(what), model.ask(what));
                break;
            case 3:
                int sundays = draw.nextInt(2) == 0 ? upTo(60) : draw.nextInt(9);
                int v = draw.nextInt(4) == 0 ? upTo(99) : Math.max(0, 99 - 4 * sundays - 5 * (sundays / 4));
                due.is(run + "felt(" + sundays + ", " + v + ")", see.felt(sundays, v), model.felt(sundays, v));
                break;
            default:
                if (draw.nextInt(3) == 0) {
                    due.is(run + "forget()", see.forget(), model.forget());
                }
                break;
        }
    }
}

/** Promise by promise: ordinary inputs, the edges that the document names, and wrong inputs. */
public final class PromisesTest {
    private static final int UNKNOWN = Given.UNKNOWN, OUTSIDE = Given.OUTSIDE, STATE = Given.STATE, FULL = Given.FULL,
            NO = Given.NO, NONE = Given.NONE;
    private static final int[] WILD = {Integer.MIN_VALUE, -7, -2, 1000000, Integer.MAX_VALUE};

    private static final Due due = new Due();

    private PromisesTest() {
    }

    public static void main(String[] args) {
        constants();
        promise1NewObject();
        promise2Hassock();
        promise3Gone();
        promise4Hair();
        promise5Swap();
        promise6Say();
        promise7Wipe();
        promise8Fault();
        promise9Judge();
        promise9Reasons();
        promise10Behind();
        promise10Acts();
        promise10Years();
        promise11See();
        promise12Swept();
        promise13Done();
        promise14Borders();
        promise15Row();
        promise16Most();
        promise17Pile();
        promise18Felt();
        promise19Forget();
        promise20Fits();
        promise21Ask();
        promise22Unpick();
        promise23Moths();
        promise24Book();
        promise25And26Images();
        promise27Told();
        due.end("PromisesTest");
    }

    private static void constants() {
        due.is("UNKNOWN", HassockSee.UNKNOWN, -1);
        due.is("OUTSIDE", HassockSee.OUTSIDE, -2);
        due.is("STATE", HassockSee.STATE, -3);
        due.is("FULL", HassockSee.FULL, -4);
        due.is("NO", HassockSee.NO, -5);
        due.is("NONE", HassockSee.NONE, -6);
        due.is("GONE", HassockSee.GONE, -1000000000000000000L);
    }

    private static void promise1NewObject() {
        HassockSee see = new HassockSee();
        due.is("new: signs", see.told(0), 0);
        due.is("new: there", see.told(1), 1023);
        due.is("new: hair", see.told(2), 20);
        due.is("new: year", see.told(3), 0);
        due.is("new: sights", see.told(4), 0);
        for (int h = 0; h < 10; h++) {
            due.is("new: place of " + h, see.told(10 + h), h);
            due.is("new: wool of " + h, see.told(20 + h), 50);
            due.is("new: stitches of " + h, see.told(30 + h), 0);
        }
        due.is("new: restore(0)", see.restore(0), STATE);
        due.is("new: restore(1)", see.restore(1), STATE);
    }

    private static void promise2Hassock() {
        HassockSee see = new HassockSee();
        see.swap(3, 7);
        due.is("hassock(3, 1, 255)", see.hassock(3, 1, 255), 10);
        due.is("its wool", see.told(23), 1);
        due.is("its stitches", see.told(33), 255);
        due.is("its place stays", see.told(13), 7);
        see.gone(3);
        see.gone(4);
        due.is("anew: hassock(3, 99, 0)", see.hassock(3, 99, 0), 9);
        due.is("its wool anew", see.told(23), 99);
        due.is("its stitches anew", see.told(33), 0);
        due.is("its place stays anew", see.told(13), 7);
        for (int h : new int[] {-1, 10, Integer.MIN_VALUE, Integer.MAX_VALUE}) {
            due.is("hassock of no number " + h, see.hassock(h, 5, 5), UNKNOWN);
            due.is("UNKNOWN before OUTSIDE " + h, see.hassock(h, 0, 256), UNKNOWN);
        }
        due.is("hassock(4, 0, 0)", see.hassock(4, 0, 0), OUTSIDE);
        due.is("hassock(4, 100, 0)", see.hassock(4, 100, 0), OUTSIDE);
        due.is("hassock(4, 1, -1)", see.hassock(4, 1, -1), OUTSIDE);
        due.is("hassock(4, 1, 256)", see.hassock(4, 1, 256), OUTSIDE);
        due.is("refused: nothing is changed", see.told(1), 1023 - 16);
        due.is("hassock(3, 0, 7) refused", see.hassock(3, 0, 7), OUTSIDE);
        due.is("refused: stitches stay", see.told(33), 0);
        due.is("hassock(3, 7, 256) refused", see.hassock(3, 7, 256), OUTSIDE);
        due.is("refused: wool stays", see.told(23), 99);
    }

    private static void promise3Gone() {
        HassockSee see = new HassockSee();
        for (int h = 9; h >= 0; h--) {
            due.is("gone(" + h + ")", see.gone(h), h);
            due.is("there behind gone(" + h + ")", see.told(1), (1 << h) - 1);
            due.is("gone(" + h + ") again", see.gone(h), UNKNOWN);
        }
        due.is("gone(-1)", see.gone(-1), UNKNOWN);
        due.is("gone(10)", see.gone(10), UNKNOWN);
        due.is("gone(32)", see.gone(32), UNKNOWN);
        due.is("gone(MIN)", see.gone(Integer.MIN_VALUE), UNKNOWN);
        due.is("place of one that is gone", see.told(14), 4);
    }

    private static void promise4Hair() {
        HassockSee see = new HassockSee();
        due.is("hair(0)", see.hair(0), 20);
        due.is("hair(999)", see.hair(999), 0);
        due.is("hair(1000)", see.hair(1000), OUTSIDE);
        due.is("hair(-1)", see.hair(-1), OUTSIDE);
        due.is("hair(7)", see.hair(7), 999);
        due.is("told(2)", see.told(2), 7);
    }

    private static void promise5Swap() {
        HassockSee see = new HassockSee();
        due.is("swap(2, 5)", see.swap(2, 5), 5);
        due.is("place of 5", see.told(15), 2);
        see.gone(2);
        see.gone(9);
        due.is("swap(2, 9), both gone", see.swap(2, 9), 9);
        due.is("place of 9", see.told(19), 5);
        due.is("swap(4, 4)", see.swap(4, 4), UNKNOWN);
        due.is("swap(-1, 4)", see.swap(-1, 4), UNKNOWN);
        due.is("swap(4, 10)", see.swap(4, 10), UNKNOWN);
        due.is("swap(10, 10)", see.swap(10, 10), UNKNOWN);
        due.is("refused: place of 4", see.told(14), 4);
    }

    private static void promise6Say() {
        HassockSee see = new HassockSee();
        due.is("say(32)", see.say(32), OUTSIDE);
        due.is("say(127)", see.say(127), OUTSIDE);
        for (int wild : WILD) {
            due.is("say(" + wild + ")", see.say(wild), OUTSIDE);
        }
        for (int i = 1; i <= 60; i++) {
            due.is("say as sign " + i, see.say(i % 2 == 1 ? 33 : 126), i);
        }
        due.is("say as sign 61", see.say(65), FULL);
        due.is("say(32) when full", see.say(32), OUTSIDE);
        due.is("signs", see.told(0), 60);
    }

    private static void promise7Wipe() {
        HassockSee see = new HassockSee();
        due.is("wipe of none", see.wipe(), 0);
        due.says(see, "A5B.");
        due.is("wipe", see.wipe(), 4);
        due.is("signs behind", see.told(0), 0);
        due.is("no fault behind", see.fault(), NONE);
        due.says(see, "A5");
        due.is("wipe of new signs", see.wipe(), 2);
    }

    private static void promise8Fault() {
        fault("", NONE);
        fault(".", NONE);
        fault("A1", NONE);
        fault("J9", NONE);
        fault("A+", NONE);
        fault("A$", NONE);
        fault("A*0", NONE);
        fault("A*7", NONE);
        fault("A&A", NONE);
        fault("J=J", NONE);
        fault("A1.B*7C&D.E=FG$.", NONE);
        fault("A", 1);
        fault("A*", 2);
        fault("A&", 2);
        fault("A=", 2);
        fault("A0", 1);
        fault("A:", 1);
        fault("A.", 1);
        fault("AA", 1);
        fault("@1", 0);
        fault("K1", 0);
        fault("a1", 0);
        fault("1", 0);
        fault("+", 0);
        fault("A*8", 2);
        fault("A*/", 2);
        fault("A&@", 2);
        fault("A&K", 2);
        fault("A=K", 2);
        fault("A=1", 2);
        fault("A+B-", 3);
        fault("A$..B*1C", 8);
        fault("A+!+", 2);
        fault("A11", 2);
        HassockSee full = Given.text(due, "A+".repeat(29) + "A=");
        due.is("fault of a full pad", full.fault(), 60);
        HassockSee see = Given.text(due, "A=");
        see.say(66);
        due.is("a sign mends the fault", see.fault(), NONE);
        see.say(66);
        due.is("a sign makes a fault", see.fault(), 4);
        see.say(32);
        due.is("a sign refused is not there", see.fault(), 4);
    }

    private static void fault(String text, int place) {
        due.is("fault of " + text, Given.text(due, text).fault(), place);
    }

    private static void promise9Judge() {
        HassockSee see = Given.text(due, "A+B+C+D+.A$");
        due.is("judge(0), all can be", see.judge(0), NONE);
        due.is("judge(1), all can be", see.judge(1), NONE);
        due.is("judge(2), none swept", see.judge(2), 0);
        due.is("judge(3)", see.judge(3), OUTSIDE);
        due.is("judge(-1)", see.judge(-1), OUTSIDE);
        see = Given.text(due, "A9A9B9B8C5A1");
        due.is("two swept, then one that is not there", see.judge(0), 5);
        due.is("why", see.judge(1), 1);
        due.is("judge(2) with an act that can not be", see.judge(2), STATE);
        due.is("OUTSIDE before STATE", see.judge(3), OUTSIDE);
        see.wipe();
        due.says(see, "A9A9B9B8C5");
        due.is("two swept", see.judge(2), 2);
        see.say('A');
        due.is("judge(0) with a fault", see.judge(0), NO);
        due.is("judge(1) with a fault", see.judge(1), NO);
        due.is("judge(2) with a fault", see.judge(2), NO);
        due.is("OUTSIDE before NO", see.judge(3), OUTSIDE);
        due.is("nothing is changed by judging", see.told(1), 1023);
        due.is("nor wool", see.told(20), 50);
        due.is("nor signs", see.told(0), 11);
    }

    private static void promise9Reasons() {
        judged(new HassockSee(), "J$J1", 1, 1);
        judged(new HassockSee(), "J$J+", 1, 1);
        judged(new HassockSee(), "J$J*1", 1, 1);
        judged(new HassockSee(), "J$J&A", 1, 1);
        judged(new HassockSee(), "J$A&J", 1, 1);
        judged(new HassockSee(), "J$J=A", 1, 1);
        judged(new HassockSee(), "J$A=J", 1, 1);
        judged(new HassockSee(), "J$J$", 1, 1);
        judged(new HassockSee(), "J$J&J", 1, 1);
        judged(new HassockSee(), "J$J=J", 1, 1);
        judged(new HassockSee(), "A+B+C+D+E+", 4, 2);
        judged(new HassockSee(), "A+A+A+A+", 3, 3);
        judged(new HassockSee(), "A&A", 0, 4);
        judged(new HassockSee(), "A1B=B", 1, 4);
        judged(Given.only(3), "A$B$", 1, 5);
        judged(Given.only(4), "C5C5C5C5C$", 4, 1);
        HassockSee poor = new HassockSee();
        poor.hair(4);
        judged(poor, "A+", 0, 2);
        HassockSee poorAndFull = new HassockSee();
        poorAndFull.hair(4);
        poorAndFull.hassock(0, 99, 0);
        judged(poorAndFull, "A+", 0, 2);
        HassockSee justFull = new HassockSee();
        justFull.hair(5);
        justFull.hassock(0, 98, 0);
        judged(justFull, "A+", NONE, NONE);
        due.is("98 and 20 is 99", justFull.behind(0, 1), 99);
        due.is("5 of hair less", justFull.see(0), 0);
        HassockSee last = Given.only(1);
        judged(last, "A$", 0, 5);
        HassockSee kneltOut = Given.only(1);
        judged(kneltOut, "A9A8.", NONE, NONE);
        due.is("the last may be swept up", kneltOut.see(1), 0);
        HassockSee old = Given.inYear(98);
        judged(old, "..", 1, 6);
        old.done();
        old.wipe();
        due.says(old, ".");
        due.is("year 99 comes", old.done(), 1);
        due.is("year 99", old.told(3), 99);
        judged(old, ".", 0, 6);
        due.is("done at year 99", old.done(), STATE);
    }

    private static void judged(HassockSee see, String text, int act, int why) {
        see.wipe();
        due.says(see, text);
        due.is("judge(0) of " + text, see.judge(0), act);
        due.is("judge(1) of " + text, see.judge(1), why);
    }

    private static void promise10Behind() {
        HassockSee see = Given.text(due, "A*3A5B$C=D");
        due.is("A there", see.behind(0, 0), 1);
        due.is("A wool", see.behind(0, 1), 35);
        due.is("A stitches", see.behind(0, 2), 8);
        due.is("A place", see.behind(0, 3), 0);
        due.is("B there", see.behind(1, 0), 0);
        due.is("B wool", see.behind(1, 1), NONE);
        due.is("B stitches", see.behind(1, 2), NONE);
        due.is("B place", see.behind(1, 3), 1);
        due.is("C place", see.behind(2, 3), 3);
        due.is("D place", see.behind(3, 3), 2);
        due.is("behind(10, 0)", see.behind(10, 0), UNKNOWN);
        due.is("behind(-1, 9)", see.behind(-1, 9), UNKNOWN);
        due.is("behind(0, 4)", see.behind(0, 4), OUTSIDE);
        due.is("behind(0, -1)", see.behind(0, -1), OUTSIDE);
        see.gone(9);
        due.is("one that was not there before", see.behind(9, 0), 0);
        due.is("its place", see.behind(9, 3), 9);
        due.says(see, "J1");
        due.is("behind with an act that can not be", see.behind(0, 1), STATE);
        due.is("UNKNOWN before STATE", see.behind(10, 1), UNKNOWN);
        due.is("OUTSIDE before STATE", see.behind(0, 4), OUTSIDE);
        see.say('x');
        due.is("behind with a fault", see.behind(0, 1), NO);
        due.is("UNKNOWN before NO", see.behind(10, 1), UNKNOWN);
        due.is("OUTSIDE before NO", see.behind(0, 4), OUTSIDE);
    }

    private static void promise10Acts() {
        HassockSee see = new HassockSee();
        see.hassock(0, 27, 0);
        due.says(see, "A8");
        due.is("27 less 24", see.behind(0, 1), 3);
        see.say('A');
        see.say('1');
        due.is("none is left: swept", see.behind(0, 0), 0);
        see.wipe();
        due.says(see, "A+A+A+A+");
        due.is("27 and four times 20", see.behind(0, 1), 99);
        due.is("20 of hair less", see.see(0), 0);
        see.wipe();
        due.says(see, "B*0B*7B*0");
        due.is("set and unpicked", see.behind(1, 2), 128);
        see.wipe();
        see.hassock(2, 70, 5);
        see.hassock(3, 29, 6);
        due.says(see, "C&D");
        due.is("union: wool", see.behind(2, 1), 99);
        due.is("union: stitches", see.behind(2, 2), 7);
        due.is("union: that one", see.behind(3, 0), 0);
        due.is("union: place", see.behind(2, 3), 2);
        due.is("union: hair stays", see.see(0), 20);
        see.wipe();
        see.hassock(3, 31, 6);
        due.says(see, "D&C");
        due.is("union: 99 at most", see.behind(3, 1), 99);
        see.wipe();
        due.says(see, "D&CD&ED=A");
        due.is("union of unions: stitches", see.behind(3, 2), 7);
        due.is("changed places", see.behind(3, 3), 0);
        due.is("the other's place", see.behind(0, 3), 3);
        due.is("place of one that went", see.behind(2, 3), 2);
    }

    private static void promise10Years() {
        HassockSee see = Given.only(31);
        see.hassock(0, 19, 0b10100101);
        see.hassock(1, 20, 255);
        see.hassock(2, 49, 255);
        see.hassock(3, 50, 255);
        see.hassock(4, 1, 0);
        due.says(see, ".");
        due.is("below 20: the highest goes", see.behind(0, 2), 0b100101);
        due.is("below 20: wool stays", see.behind(0, 1), 19);
        due.is("20: nothing is eaten", see.behind(1, 2), 255);
        due.is("20: nothing is given", see.behind(1, 1), 20);
        due.is("49: nothing is given", see.behind(2, 1), 49);
        due.is("50: one is given", see.behind(3, 1), 49);
        due.is("50: nothing is eaten", see.behind(3, 2), 255);
        due.is("none to eat", see.behind(4, 2), 0);
        due.is("1: wool stays", see.behind(4, 1), 1);
        due.is("hair", see.see(0), 21);
        due.says(see, ".");
        due.is("one year more", see.behind(0, 2), 0b101);
        due.is("hair stays", see.see(0), 21);
        due.says(see, "...");
        due.is("all eaten", see.behind(0, 2), 0);
        see.wipe();
        due.says(see, "..B*6B*6D1");
        see.hair(998);
        see.hassock(3, 60, 0);
        see.hassock(2, 60, 0);
        due.is("999 at most", see.see(0), 999);
        due.is("given at 999, too", see.behind(2, 1), 58);
        due.is("and knelt on", see.behind(3, 1), 55);
    }

    private static void promise11See() {
        HassockSee see = new HassockSee();
        see.hassock(0, 50, 3);
        see.hassock(1, 50, 7);
        see.hassock(2, 50, 255);
        see.hair(995);
        due.says(see, "C$.");
        due.is("hair: 999 at most", see.see(0), 999);
        due.is("who", see.see(1), 1023 - 4);
        due.is("stitches in all", see.see(2), 5);
        due.is("year", see.see(3), 1);
        due.is("see(4)", see.see(4), OUTSIDE);
        due.is("see(-1)", see.see(-1), OUTSIDE);
        due.says(see, "C1");
        due.is("see with an act that can not be", see.see(0), STATE);
        due.is("see(4), then", see.see(4), OUTSIDE);
        due.says(see, "C");
        due.is("see with a fault", see.see(0), NO);
        due.is("see(4), then too", see.see(4), OUTSIDE);
        due.is("hair in fact", see.told(2), 995);
        due.is("year in fact", see.told(3), 0);
        HassockSee sold = Given.text(due, "A$B$");
        due.is("10 more for each", sold.see(0), 40);
    }

    private static void promise12Swept() {
        HassockSee see = Given.text(due, "A$.C&BD9D9E9E9");
        due.is("swept(0)", see.swept(0), 4);
        due.is("swept(1)", see.swept(1), 3);
        due.is("swept(2)", see.swept(2), OUTSIDE);
        due.is("swept(-1)", see.swept(-1), OUTSIDE);
        due.says(see, "D1");
        due.is("swept with an act that can not be", see.swept(0), STATE);
        due.is("swept(2), then", see.swept(2), OUTSIDE);
        see.say('D');
        due.is("swept with a fault", see.swept(1), NO);
        see.wipe();
        due.is("none: the act", see.swept(0), NONE);
        due.is("none: which", see.swept(1), NONE);
        due.says(see, "A$C&BD9");
        due.is("sold and united are not swept", see.swept(0), NONE);
    }

    private static void promise13Done() {
        HassockSee see = Given.text(due, "A*1B&C.D9D9E=F");
        due.is("done", see.done(), 6);
        due.is("the pad is empty", see.told(0), 0);
        due.is("there", see.told(1), 1023 - 4 - 8);
        due.is("stitches", see.told(30), 2);
        due.is("wool of B", see.told(21), 98);
        due.is("hair", see.told(2), 29);
        due.is("year", see.told(3), 1);
        due.is("place of E", see.told(14), 5);
        due.is("done again", see.done(), 0);
        due.says(see, "C1");
        due.is("done with an act that can not be", see.done(), STATE);
        due.is("the pad stays", see.told(0), 2);
        due.says(see, "C");
        due.is("done with a fault", see.done(), NO);
        due.is("the pad stays then too", see.told(0), 3);
        due.is("nothing is changed", see.told(3), 1);
    }

    private static void promise14Borders() {
        HassockSee see = Given.only(0b1000100101);
        due.is("no stitches", see.borders(), 0);
        see.hassock(0, 50, 0b1111);
        see.hassock(2, 50, 0b0011);
        see.hassock(5, 50, 0b1100);
        see.hassock(9, 50, 0b10000000);
        due.is("2 and 4 and 3", see.borders(), 9);
        see.swap(0, 1);
        due.is("past one that is not there", see.borders(), 9);
        see.swap(2, 9);
        due.is("in another order", see.borders(), 5 + 3 + 4);
        due.is("gone", see.gone(5), 3);
        due.is("without the middle", see.borders(), 5 + 3);
        see.gone(0);
        see.gone(2);
        due.is("one alone", see.borders(), 0);
        see.gone(9);
        due.is("nobody", see.borders(), 0);
        see.hassock(0, 50, 1);
        see.hassock(1, 50, 2);
        due.says(see, "A*5");
        due.is("the pad does not matter", see.borders(), 2);
    }

    private static void promise15Row() {
        HassockSee see = Given.only(0b11100);
        see.hassock(2, 50, 0b1);
        see.hassock(3, 50, 0b11);
        see.hassock(4, 50, 0b0);
        due.is("C between", see.row(0), 2);
        due.is("D first", see.row(1), 3);
        see.swap(2, 4);
        due.is("places do not matter", see.row(1), 3);
        due.is("row(2)", see.row(2), OUTSIDE);
        due.is("row(-1)", see.row(-1), OUTSIDE);
        see.hassock(2, 50, 0);
        see.hassock(3, 50, 0);
        due.is("all alike", see.row(0), 0);
        due.is("all alike: the least", see.row(1), 2);
        see.gone(2);
        see.gone(3);
        due.is("one alone", see.row(0), 0);
        due.is("one alone is first", see.row(1), 4);
        see.gone(4);
        due.is("nobody: how much", see.row(0), 0);
        due.is("nobody: who", see.row(1), NONE);
        HassockSee line = new HassockSee();
        for (int h = 0; h < 10; h++) {
            line.hassock(h, 50, h == 9 ? 0b11111110 : (1 << h * 7 % 9) - 1);
        }
        due.is("a line of nine, and one by its end", line.row(0), 9);
        due.is("its one end", line.row(1), 0);
    }

    private static void promise16Most() {
        HassockSee see = Given.only(0b11111);
        see.hassock(0, 50, 0b001);
        see.hassock(1, 50, 0b010);
        see.hassock(2, 50, 0b100);
        see.hassock(3, 50, 0b011);
        see.hassock(4, 50, 0b1000);
        due.is("most(7, 0)", see.most(7, 0), 1);
        due.is("most(7, 1)", see.most(7, 1), 4);
        due.is("most(3, 0)", see.most(3, 0), 2);
        due.is("most(8, 0)", see.most(8, 0), 1);
        due.is("most(15, 0)", see.most(15, 0), 1);
        due.is("most(16, 0)", see.most(16, 0), 0);
        due.is("most(16, 1)", see.most(16, 1), 0);
        see.hassock(4, 50, 0b1100);
        due.is("two unions of two", see.most(7, 0), 2);
        see.hassock(4, 50, 0b111);
        due.is("one by itself", see.most(7, 0), 2);
        see.hassock(3, 50, 0b111);
        due.is("two by themselves, a union", see.most(7, 0), 3);
        see.gone(2);
        due.is("one left over less", see.most(7, 0), 2);
        due.is("none has some", see.most(8, 1), 0);
        due.is("most(0, 0)", see.most(0, 0), OUTSIDE);
        due.is("most(-1, 0)", see.most(-1, 0), OUTSIDE);
        due.is("most(256, 0)", see.most(256, 0), OUTSIDE);
        due.is("most(255, 2)", see.most(255, 2), OUTSIDE);
        due.is("most(255, -1)", see.most(255, -1), OUTSIDE);
        due.is("nobody", Given.only(0).most(255, 0), 0);
        due.is("nobody has some", Given.only(0).most(255, 1), 0);
    }

    private static void promise17Pile() {
        HassockSee see = Given.only(0b111);
        see.hassock(0, 4, 0);
        see.hassock(1, 4, 0);
        see.hassock(2, 4, 0);
        due.is("none bears any", see.pile(0), 1);
        due.is("the least of one", see.pile(1), 1);
        see.hassock(2, 5, 255);
        due.is("one bears one", see.pile(0), 2);
        due.is("the least of two", see.pile(1), 0b101);
        see.hassock(2, 9, 255);
        due.is("a fifth is cut", see.pile(0), 2);
        see.hassock(2, 10, 255);
        due.is("still two: the others bear none", see.pile(0), 2);
        see.hassock(1, 5, 1);
        due.is("three", see.pile(0), 2);
        see.hassock(2, 15, 255);
        due.is("of all above it together", see.pile(0), 3);
        due.is("which", see.pile(1), 7);
        due.is("pile(2)", see.pile(2), OUTSIDE);
        due.is("pile(-1)", see.pile(-1), OUTSIDE);
        due.is("nobody", Given.only(0).pile(0), 0);
        due.is("nobody: which", Given.only(0).pile(1), 0);
        due.is("ten of 50", new HassockSee().pile(1), 1023);
    }

    private static void promise18Felt() {
        HassockSee see = new HassockSee();
        due.is("felt(61, 0)", see.felt(61, 0), OUTSIDE);
        due.is("felt(-1, 0)", see.felt(-1, 0), OUTSIDE);
        due.is("felt(0, 100)", see.felt(0, 100), OUTSIDE);
        due.is("felt(0, -1)", see.felt(0, -1), OUTSIDE);
        due.is("told(4)", see.told(4), 0);
        for (int i = 1; i <= 8; i++) {
            due.is("felt as sight " + i, see.felt(60, i == 8 ? 99 : 0), i);
        }
        due.is("felt as sight 9", see.felt(60, 0), FULL);
        due.is("OUTSIDE before FULL", see.felt(61, 0), OUTSIDE);
        due.is("told(4) at last", see.told(4), 8);
        due.is("the eighth counts", see.fits(-1), 0);
    }

    private static void promise19Forget() {
        HassockSee see = new HassockSee();
        due.is("forget none", see.forget(), 0);
        see.felt(1, 98);
        see.felt(1, 98);
        due.is("forget two", see.forget(), 2);
        due.is("told(4)", see.told(4), 0);
        due.is("all fit again", see.fits(-1), 90);
    }

    private static void promise20Fits() {
        HassockSee see = new HassockSee();
        due.is("all", see.fits(-1), 90);
        for (int i = 0; i < 90; i++) {
            due.is("fits(" + i + ")", see.fits(i), 10 + i);
        }
        due.is("fits(90)", see.fits(90), NONE);
        for (int wild : WILD) {
            due.is("fits(" + wild + ")", see.fits(wild), NONE);
        }
        see.felt(3, 99 - 3 * 5);
        due.is("a alone", see.fits(-1), 10);
        due.is("the first", see.fits(0), 50);
        due.is("the last", see.fits(9), 59);
        due.is("behind the last", see.fits(10), NONE);
        see.felt(8, 99 - 40 - 2 * 7);
        due.is("c too", see.fits(-1), 1);
        due.is("a and c", see.fits(0), 57);
        due.is("fits(1)", see.fits(1), NONE);
        see.felt(60, 0);
        due.is("0 at least", see.fits(0), 57);
        see.felt(60, 1);
        due.is("none", see.fits(-1), 0);
        due.is("none: fits(0)", see.fits(0), NONE);
        see.forget();
        see.felt(60, 9);
        due.is("60 and c 2", see.fits(0), 12);
        due.is("60, alone", see.fits(-1), 1);
    }

    private static void promise21Ask() {
        HassockSee see = new HassockSee();
        due.is("ask(0)", see.ask(0), 5);
        due.is("ask(1)", see.ask(1), 2);
        due.is("ask(2)", see.ask(2), OUTSIDE);
        due.is("ask(-1)", see.ask(-1), OUTSIDE);
        see.felt(3, 99 - 3 * 5);
        due.is("c is asked by 4", see.ask(0), 4);
        due.is("then one is left", see.ask(1), 1);
        see.felt(0, 98);
        due.is("nothing fits: ask(0)", see.ask(0), NONE);
        due.is("nothing fits: ask(1)", see.ask(1), NONE);
        due.is("OUTSIDE before NONE", see.ask(2), OUTSIDE);
        due.is("asking feels nothing", see.told(4), 2);
    }

    private static void promise22Unpick() {
        HassockSee see = new HassockSee();
        unpicked(see, 0, NONE);
        unpicked(see, 0b1, 1);
        unpicked(see, 0b11, 2);
        unpicked(see, 0b111, 11);
        unpicked(see, 0b101, NONE);
        unpicked(see, 0b1111, 12);
        unpicked(see, 0b10000001, NONE);
        unpicked(see, 0b10000011, 1);
        unpicked(see, 0b11000000, 62);
        unpicked(see, 0b1101100, NONE);
        unpicked(see, 0b10000000, 71);
        unpicked(see, 0b10101, 1);
        see.hassock(0, 50, 255);
        due.is("nothing is unpicked in fact", see.unpick(0, 1), 32);
        due.is("stitches", see.told(30), 255);
        due.is("unpick(0, 2)", see.unpick(0, 2), OUTSIDE);
        due.is("unpick(0, -1)", see.unpick(0, -1), OUTSIDE);
        due.is("unpick(10, 2)", see.unpick(10, 2), UNKNOWN);
        due.is("unpick(-1, 0)", see.unpick(-1, 0), UNKNOWN);
        see.gone(0);
        due.is("not there", see.unpick(0, 0), UNKNOWN);
        due.is("UNKNOWN before OUTSIDE", see.unpick(0, 2), UNKNOWN);
    }

    private static void unpicked(HassockSee see, int pattern, int move) {
        see.hassock(0, 50, pattern);
        due.is("unpick of " + Integer.toBinaryString(pattern), see.unpick(0, 1), move);
        due.is("whether of " + Integer.toBinaryString(pattern), see.unpick(0, 0), move == NONE ? 0 : 1);
    }

    private static void promise23Moths() {
        HassockSee see = new HassockSee();
        long outside = -1000000000000000002L;
        fraction(see, 2, 2, 5, 0, 9, 16);
        fraction(see, 2, 2, 5, 1, 1, 2);
        fraction(see, 0, 0, 0, 0, 1, 1);
        fraction(see, 0, 16, 5, 1, 0, 1);
        fraction(see, 16, 0, 10, 0, 0, 1);
        fraction(see, 16, 0, 10, 1, 16, 1);
        fraction(see, 16, 1, 10, 0, 1, 1);
        fraction(see, 16, 1, 10, 1, 0, 1);
        fraction(see, 1, 16, 0, 0, 0, 1);
        fraction(see, 1, 16, 0, 1, 1, 1);
        fraction(see, 16, 1, 5, 0, 1, 65536);
        fraction(see, 16, 1, 1, 1, 72, 5);
        fraction(see, 1, 16, 7, 1, 43046721L, 10000000000000000L);
        fraction(see, 16, 1, 3, 0, 43046721L, 10000000000000000L);
        due.is("n -1", see.moths(-1, 1, 1, 0, 0), outside);
        due.is("n 17", see.moths(17, 0, 1, 0, 0), outside);
        due.is("m -1", see.moths(1, -1, 1, 0, 0), outside);
        due.is("m 17", see.moths(0, 17, 1, 0, 0), outside);
        due.is("n times m 18", see.moths(2, 9, 1, 0, 0), outside);
        due.is("n times m, by wrap-around", see.moths(65536, 65536, 1, 0, 0), outside);
        due.is("t -1", see.moths(1, 1, -1, 0, 0), outside);
        due.is("t 11", see.moths(1, 1, 11, 0, 0), outside);
        due.is("what -1", see.moths(1, 1, 1, -1, 0), outside);
        due.is("what 2", see.moths(1, 1, 1, 2, 0), outside);
        due.is("part -1", see.moths(1, 1, 1, 0, -1), outside);
        due.is("part 2", see.moths(1, 1, 1, 0, 2), outside);
    }

    private static void fraction(HassockSee see, int n, int m, int t, int what, long upper, long lower) {
        String call = "moths(" + n + ", " + m + ", " + t + ", " + what + ", ";
        due.is(call + "0)", see.moths(n, m, t, what, 0), upper);
        due.is(call + "1)", see.moths(n, m, t, what, 1), lower);
    }

    private static void promise24Book() {
        HassockSee see = new HassockSee();
        // Seed 0: x is 74, of E, draw 7: a year, in which all ten of wool 50 give 1.
        due.is("a year", see.book(0, 1, 1), 30);
        // Then x is 5624, of E, draw 2: stuffed.
        due.is("a year, one stuffed", see.book(0, 2, 1), 25);
        due.is("how many", see.book(0, 2, 0), 10);
        due.is("nothing in fact: hair", see.told(2), 20);
        due.is("nothing in fact: year", see.told(3), 0);
        see.hair(4);
        due.is("from all as it is", see.book(0, 1, 1), 14);
        for (int h = 0; h < 10; h++) {
            see.hassock(h, h == 0 ? 50 : 49, 0);
        }
        due.is("stuffed only if that can be", see.book(0, 2, 1), 0);
        see.hair(3);
        due.is("not stuffed with 4 of hair", see.book(0, 2, 1), 4);
        due.is("seed -1", see.book(-1, 1, 0), OUTSIDE);
        due.is("seed 10000", see.book(10000, 1, 0), OUTSIDE);
        due.is("m 0", see.book(0, 0, 0), OUTSIDE);
        due.is("m 100", see.book(0, 100, 0), OUTSIDE);
        due.is("what -1", see.book(0, 1, -1), OUTSIDE);
        due.is("what 3", see.book(0, 1, 3), OUTSIDE);
        due.is("seed 9999, m 99", see.book(9999, 99, 0) >= 0 ? 1 : 0, 1);
        HassockSee run = new HassockSee();
        for (int h = 0; h < 10; h++) {
            run.hassock(h, 99, (1 << h) - 1 & 255);
        }
        due.is("borders, behind one year", run.book(0, 1, 2), 8);
        due.says(run, "zz");
        due.is("the pad does not matter", run.book(0, 1, 1), 30);
    }

    private static void promise25And26Images() {
        HassockSee see = new HassockSee();
        due.is("restore(0), not kept", see.restore(0), STATE);
        see.hassock(0, 7, 9);
        see.gone(1);
        see.swap(2, 3);
        see.hair(77);
        due.says(see, ".");
        see.done();
        see.felt(3, 84);
        due.says(see, "A1B");
        due.is("image(1)", see.image(1), 1);
        due.is("restore(0), still not kept", see.restore(0), STATE);
        see.hassock(0, 99, 255);
        see.hassock(1, 99, 255);
        see.swap(2, 9);
        see.hair(0);
        see.forget();
        see.felt(0, 1);
        see.felt(0, 2);
        see.wipe();
        due.says(see, "A1B2.");
        due.is("image(0)", see.image(0), 1);
        see.done();
        due.is("restore(1)", see.restore(1), 1);
        asItWasKept(see);
        due.is("the pad is not brought back", see.told(0), 0);
        due.is("restore(0)", see.restore(0), 1);
        due.is("the other: there", see.told(1), 1023);
        due.is("the other: wool", see.told(20), 99);
        due.is("the other: hair", see.told(2), 0);
        due.is("the other: year", see.told(3), 1);
        due.is("the other: sights", see.told(4), 2);
        due.is("the other: which", see.fits(-1), 0);
        due.says(see, "A1");
        due.is("restore(1) again", see.restore(1), 1);
        asItWasKept(see);
        due.is("the pad stays", see.told(0), 2);
        see.hassock(0, 1, 0);
        due.is("image(1) anew", see.image(1), 1);
        see.hassock(0, 2, 0);
        see.restore(1);
        due.is("the newer one", see.told(20), 1);
        due.is("image(-1)", see.image(-1), OUTSIDE);
        due.is("image(2)", see.image(2), OUTSIDE);
        due.is("restore(-1)", see.restore(-1), OUTSIDE);
        due.is("restore(2)", see.restore(2), OUTSIDE);
    }

    private static void asItWasKept(HassockSee see) {
        due.is("kept: there", see.told(1), 1021);
        due.is("kept: wool", see.told(20), 7);
        due.is("kept: stitches", see.told(30), 1);
        due.is("kept: place", see.told(12), 3);
        due.is("kept: hair", see.told(2), 85);
        due.is("kept: year", see.told(3), 1);
        due.is("kept: sights", see.told(4), 1);
        due.is("kept: what was felt", see.fits(0), 50);
    }

    private static void promise27Told() {
        HassockSee see = new HassockSee();
        due.says(see, "A1");
        see.felt(0, 99);
        see.hassock(6, 12, 34);
        see.swap(6, 8);
        due.is("signs", see.told(0), 2);
        due.is("sights", see.told(4), 1);
        due.is("place", see.told(16), 8);
        due.is("wool", see.told(26), 12);
        due.is("stitches", see.told(36), 34);
        see.gone(6);
        due.is("place of one not there", see.told(16), 8);
        due.is("wool of one not there", see.told(26), OUTSIDE);
        due.is("stitches of one not there", see.told(36), OUTSIDE);
        due.is("who", see.told(1), 1023 - 64);
        for (int what = 5; what < 10; what++) {
            due.is("told(" + what + ")", see.told(what), OUTSIDE);
        }
        due.is("told(40)", see.told(40), OUTSIDE);
        due.is("told(-1)", see.told(-1), OUTSIDE);
        for (int wild : WILD) {
            due.is("told(" + wild + ")", see.told(wild), OUTSIDE);
        }
    }
}

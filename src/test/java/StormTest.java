import java.util.Random;

/** Any arguments in any state: every call ends, throws nothing, and answers what a call can answer. */
public final class StormTest {
    private static final int[] EDGES = {Integer.MIN_VALUE, Integer.MIN_VALUE + 1, -1000000001, -65536, -100, -10, -7, -6,
        -5, -4, -3, -2, -1, 0, 1, 2, 3, 4, 7, 8, 9, 10, 11, 15, 16, 17, 29, 30, 31, 32, 33, 39, 40, 59, 60, 61, 63, 64,
        90, 98, 99, 100, 126, 127, 128, 254, 255, 256, 998, 999, 1000, 1023, 1024, 9999, 10000, 65536, 65537, 46341,
        1000000000, Integer.MAX_VALUE - 1, Integer.MAX_VALUE};

    private StormTest() {
    }

    public static void main(String[] args) {
        Due due = new Due();
        for (int seed = 1; seed <= 60; seed++) {
            Random draw = new Random(seed);
            HassockSee see = new HassockSee();
            for (int i = 0; i < 1500; i++) {
                storm(see, draw, due, seed);
            }
        }
        due.end("StormTest");
    }

    private static int any(Random draw) {
        return draw.nextInt(10) == 0 ? draw.nextInt() : EDGES[draw.nextInt(EDGES.length)];
    }

    private static int small(Random draw) {
        return draw.nextInt(4) == 0 ? any(draw) : draw.nextInt(11);
    }

    private static void storm(HassockSee see, Random draw, Due due, int seed) {
        int call = draw.nextInt(40);
        String text = "storm " + seed + ", call " + call;
        try {
            long answer = answer(see, draw, call);
            due.holds(text + ": " + answer, answer >= -6 || answer == -1000000000000000002L);
        } catch (Throwable thrown) {
            due.holds(text + " threw " + thrown, false);
        }
    }

    private static long answer(HassockSee see, Random draw, int call) {
        switch (call) {
            case 0: return see.hassock(small(draw), any(draw), any(draw));
            case 1: return see.gone(small(draw));
            case 2: return see.hair(any(draw));
            case 3: return see.swap(small(draw), small(draw));
            case 4: return see.wipe();
            case 5: return see.fault();
            case 6: return see.judge(small(draw));
            case 7: return see.behind(small(draw), small(draw));
            case 8: return see.see(small(draw));
            case 9: return see.swept(small(draw));
            case 10: return see.done();
            case 11: return see.borders();
            case 12: return see.row(small(draw));
            case 13: return see.most(any(draw), draw.nextInt(2));
            case 14: return see.pile(small(draw));
            case 15: return see.felt(any(draw), any(draw));
            case 16: return see.forget();
            case 17: return see.fits(any(draw));
            case 18: return see.ask(small(draw));
            case 19: return see.unpick(small(draw), small(draw));
            case 20: return see.moths(small(draw), small(draw), small(draw), draw.nextInt(2), small(draw));
            case 21: return see.moths(any(draw), any(draw), any(draw), any(draw), any(draw));
            case 22: return see.book(any(draw), any(draw), draw.nextInt(3));
            case 23: return see.image(small(draw));
            case 24: return see.restore(small(draw));
            case 25: return see.told(any(draw));
            default: return see.say(draw.nextInt(8) == 0 ? any(draw) : "ABCJ.+*&=$19".charAt(draw.nextInt(12)));
        }
    }
}

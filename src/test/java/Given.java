/** What tests begin with. */
final class Given {
    static final int UNKNOWN = -1, OUTSIDE = -2, STATE = -3, FULL = -4, NO = -5, NONE = -6;
    static final int[] NO_HASSOCKS = {Integer.MIN_VALUE, -32, -10, -1, 10, 32, 42, 256, Integer.MAX_VALUE};

    private Given() {
    }

    /** Only the hassocks of a set are there, with wool 50 and no stitches. */
    static HassockSee only(int set) {
        HassockSee see = new HassockSee();
        for (int h = 0; h < 10; h++) {
            if ((set >> h & 1) == 0) {
                see.gone(h);
            }
        }
        return see;
    }

    static HassockSee text(Due due, String text) {
        HassockSee see = new HassockSee();
        due.says(see, text);
        return see;
    }

    /** A, of that wool and those stitches; the others as at first. */
    static HassockSee first(int wool, int stitches) {
        HassockSee see = new HassockSee();
        see.hassock(0, wool, stitches);
        return see;
    }

    static HassockSee withHair(int hair) {
        HassockSee see = new HassockSee();
        see.hair(hair);
        return see;
    }

    /** Behind so many years, each of them done by itself. */
    static HassockSee inYear(int year) {
        HassockSee see = new HassockSee();
        for (int i = 0; i < year; i++) {
            see.say('.');
            see.done();
        }
        return see;
    }

    /** Numbers below the least and above the most. */
    static int[] outside(int least, int most) {
        return new int[] {Integer.MIN_VALUE, least - 1000, least - 1, most + 1, most + 1000, Integer.MAX_VALUE};
    }
}

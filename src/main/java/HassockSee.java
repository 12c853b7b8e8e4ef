/** A diocese of ten hassocks: its years, rows, unions, piles, wear and moths. README.md tells how it is used. */
public final class HassockSee {
    public static final int UNKNOWN = -1, OUTSIDE = -2, STATE = -3, FULL = -4, NO = -5, NONE = -6;
    public static final long GONE = -1000000000000000000L;

    private static final int HASSOCKS = 10, ALL_THERE = 1023, SETS = 1024;
    private static final int MOST_WOOL = 99, FIRST_WOOL = 50, MOST_HAIR = 999, FIRST_HAIR = 20, LAST_YEAR = 99;
    private static final int STITCHES = 8, ALL_STITCHES = 255;
    private static final int MOST_SIGNS = 60, FIRST_SIGN = 33, LAST_SIGN = 126, NO_SIGN = 0;
    private static final int MOST_SIGHTS = 8, LAST_SUNDAY = 60, MOST_FITS = 90, FEELINGS = 100;
    private static final int MOST_MOTHS = 16, MOST_TENTHS = 10, EUCLID_STEPS = 128;
    private static final int LAST_SEED = 9999, MOST_DRAWS = 99;

    /** The kinds of acts, of years told and of year-books alike. */
    private static final int KNEES = 0, STUFF = 1, NEEDLE = 2, UNITE = 3, CHANGE = 4, SELL = 5, YEAR = 6;

    /** Why an act can not be; the least that fits is told. */
    private static final int CAN_BE = 0, NOT_THERE = 1, NO_HAIR = 2, WOOL_FULL = 3, BOTH_ONE = 4, LAST_ONE = 5,
            YEARS_OVER = 6;

    private final Diocese now = new Diocese();
    /** What texts and year-books are tried on, so that nothing is changed in fact. */
    private final Diocese trial = new Diocese();
    private final Pad pad = new Pad();
    private final Years years = new Years();
    private final Arrangements arrangements = new Arrangements();
    private final Unpicking unpicking = new Unpicking();
    private final Sights sights = new Sights();
    private final Wear wear = new Wear();
    private final Image firstImage = new Image();
    private final Image secondImage = new Image();

    public HassockSee() {
    }

    // ---- 1 hassocks, the chest

    public int hassock(int hassock, int wool, int stitches) {
        if (!isHassock(hassock)) {
            return UNKNOWN;
        }
        if (!isWithin(wool, 1, MOST_WOOL) || !isWithin(stitches, 0, ALL_STITCHES)) {
            return OUTSIDE;
        }
        now.bring(hassock, wool, stitches);
        return now.howMany();
    }

    public int gone(int hassock) {
        if (!now.isThere(hassock)) {
            return UNKNOWN;
        }
        now.takeAway(hassock);
        return now.howMany();
    }

    public int hair(int v) {
        if (!isWithin(v, 0, MOST_HAIR)) {
            return OUTSIDE;
        }
        int before = now.hair;
        now.hair = v;
        return before;
    }

    public int swap(int one, int other) {
        if (!isHassock(one) || !isHassock(other) || one == other) {
            return UNKNOWN;
        }
        now.changePlaces(one, other);
        return now.place[one];
    }

    public int say(int sign) {
        if (!isWithin(sign, FIRST_SIGN, LAST_SIGN)) {
            return OUTSIDE;
        }
        return pad.write(sign) ? pad.count : FULL;
    }

    public int wipe() {
        int before = pad.count;
        pad.clear();
        return before;
    }

    public int fault() {
        return pad.firstFault();
    }

    // ---- 2 years

    public int judge(int what) {
        if (!isWithin(what, 0, 2)) {
            return OUTSIDE;
        }
        int refusal = tryText();
        if (refusal == NO) {
            return NO;
        }
        if (what == 0) {
            return years.badAct;
        }
        if (what == 1) {
            return years.reason;
        }
        return refusal == STATE ? STATE : years.sweptCount;
    }

    public int behind(int hassock, int what) {
        if (!isHassock(hassock)) {
            return UNKNOWN;
        }
        if (!isWithin(what, 0, 3)) {
            return OUTSIDE;
        }
        int refusal = tryText();
        if (refusal != 0) {
            return refusal;
        }
        if (what == 3) {
            return trial.place[hassock];
        }
        if (what == 0) {
            return trial.isThere(hassock) ? 1 : 0;
        }
        if (!trial.isThere(hassock)) {
            return NONE;
        }
        return what == 1 ? trial.wool[hassock] : trial.stitches[hassock];
    }

    public int see(int what) {
        if (!isWithin(what, 0, 3)) {
            return OUTSIDE;
        }
        int refusal = tryText();
        if (refusal != 0) {
            return refusal;
        }
        switch (what) {
            case 0:
                return trial.hair;
            case 1:
                return trial.there;
            case 2:
                return trial.stitchesInAll();
            default:
                return trial.year;
        }
    }

    public int swept(int what) {
        if (!isWithin(what, 0, 1)) {
            return OUTSIDE;
        }
        int refusal = tryText();
        if (refusal != 0) {
            return refusal;
        }
        return what == 0 ? years.sweepingAct : years.sweptHassock;
    }

    public int done() {
        int refusal = tryText();
        if (refusal != 0) {
            return refusal;
        }
        now.copyFrom(trial);
        pad.clear();
        return years.acts;
    }

    public int borders() {
        return now.bordersInPlaces();
    }

    // ---- 3 rows, unions, piles

    public int row(int what) {
        if (!isWithin(what, 0, 1)) {
            return OUTSIDE;
        }
        arrangements.rank(now);
        return what == 0 ? arrangements.leastBorders : arrangements.firstInRow;
    }

    public int most(int set, int what) {
        if (!isWithin(set, 1, ALL_STITCHES) || !isWithin(what, 0, 1)) {
            return OUTSIDE;
        }
        return what == 0 ? arrangements.mostParishes(now, set) : now.howManyHaveSome(set);
    }

    public int pile(int what) {
        if (!isWithin(what, 0, 1)) {
            return OUTSIDE;
        }
        int highest = arrangements.highestPile(now);
        return what == 0 ? Integer.bitCount(highest) : highest;
    }

    // ---- 4 wear, unpicking, moths

    public int felt(int sundays, int v) {
        if (!isWithin(sundays, 0, LAST_SUNDAY) || !isWithin(v, 0, MOST_WOOL)) {
            return OUTSIDE;
        }
        return sights.add(sundays, v) ? sights.count : FULL;
    }

    public int forget() {
        int before = sights.count;
        sights.count = 0;
        return before;
    }

    public int fits(int i) {
        wear.fit(sights);
        return i == -1 ? wear.count : wear.fitAt(i);
    }

    public int ask(int what) {
        if (!isWithin(what, 0, 1)) {
            return OUTSIDE;
        }
        wear.fit(sights);
        wear.chooseSunday();
        return what == 0 ? wear.bestSunday : wear.mostLeft;
    }

    public int unpick(int hassock, int what) {
        if (!now.isThere(hassock)) {
            return UNKNOWN;
        }
        if (!isWithin(what, 0, 1)) {
            return OUTSIDE;
        }
        int move = unpicking.leastWinningMove(now.stitches[hassock]);
        if (what == 1) {
            return move;
        }
        return move == NONE ? 0 : 1;
    }

    public long moths(int n, int m, int t, int what, int part) {
        if (!isWithin(n, 0, MOST_MOTHS) || !isWithin(m, 0, MOST_MOTHS) || n * m > MOST_MOTHS
                || !isWithin(t, 0, MOST_TENTHS) || !isWithin(what, 0, 1) || !isWithin(part, 0, 1)) {
            return GONE + OUTSIDE;
        }
        long whole = power(10, m);
        long spared = power(10 - t, m);
        if (what == 0) {
            return partInLowestTerms(power(whole - spared, n), power(whole, n), part);
        }
        return partInLowestTerms(n * spared, whole, part);
    }

    public int book(int seed, int m, int what) {
        if (!isWithin(seed, 0, LAST_SEED) || !isWithin(m, 1, MOST_DRAWS) || !isWithin(what, 0, 2)) {
            return OUTSIDE;
        }
        drawYears(seed, m);
        if (what == 0) {
            return trial.howMany();
        }
        return what == 1 ? trial.hair : trial.bordersInPlaces();
    }

    public int image(int k) {
        if (!isWithin(k, 0, 1)) {
            return OUTSIDE;
        }
        imageOf(k).keep(now, sights);
        return 1;
    }

    public int restore(int k) {
        if (!isWithin(k, 0, 1)) {
            return OUTSIDE;
        }
        return imageOf(k).bringBack(now, sights) ? 1 : STATE;
    }

    public int told(int what) {
        switch (what) {
            case 0:
                return pad.count;
            case 1:
                return now.there;
            case 2:
                return now.hair;
            case 3:
                return now.year;
            case 4:
                return sights.count;
            default:
                return toldOfHassock(what);
        }
    }

    private int toldOfHassock(int what) {
        if (!isWithin(what, 10, 39)) {
            return OUTSIDE;
        }
        int hassock = what % 10;
        if (what < 20) {
            return now.place[hassock];
        }
        if (!now.isThere(hassock)) {
            return OUTSIDE;
        }
        return what < 30 ? now.wool[hassock] : now.stitches[hassock];
    }

    /** Tries the text from all as it is; 0, or the refusal of what asks for its outcome. */
    private int tryText() {
        if (pad.firstFault() != NONE) {
            return NO;
        }
        trial.copyFrom(now);
        years.run(pad, trial);
        return years.badAct == NONE ? 0 : STATE;
    }

    private void drawYears(int seed, int acts) {
        trial.copyFrom(now);
        int x = seed;
        for (int i = 0; i < acts; i++) {
            x = (75 * x + 74) % 65537;
            drawAct(x % 10, x / 10 % 8, x / 80);
        }
    }

    private void drawAct(int hassock, int draw, int z) {
        switch (draw) {
            case 0:
            case 1:
                trial.attempt(KNEES, hassock, 1 + z % 9);
                break;
            case 2:
                trial.attempt(STUFF, hassock, 0);
                break;
            case 3:
            case 4:
                trial.attempt(NEEDLE, hassock, z % 8);
                break;
            case 5:
                if (z % 8 == 0) {
                    trial.attempt(UNITE, hassock, z % 10);
                }
                break;
            case 6:
                trial.attempt(CHANGE, hassock, z % 10);
                break;
            default:
                trial.attempt(YEAR, hassock, 0);
                break;
        }
    }

    private Image imageOf(int k) {
        return k == 0 ? firstImage : secondImage;
    }

    private static boolean isWithin(int v, int least, int most) {
        return v >= least && v <= most;
    }

    private static boolean isHassock(int v) {
        return v >= 0 && v < HASSOCKS;
    }

    private static boolean isIn(int set, int one) {
        return (set >> one & 1) == 1;
    }

    private static long power(long base, int times) {
        long result = 1;
        for (int i = 0; i < times; i++) {
            result *= base;
        }
        return result;
    }

    private static long partInLowestTerms(long upper, long lower, int part) {
        long common = commonDivisor(upper, lower);
        return part == 0 ? upper / common : lower / common;
    }

    /** At least 1, so that it can always divide. */
    private static long commonDivisor(long one, long other) {
        long a = one;
        long b = other;
        for (int i = 0; i < EUCLID_STEPS && b != 0; i++) {
            long left = a % b;
            a = b;
            b = left;
        }
        return Math.max(1, a);
    }

    /** The hassocks, the chest and the year, and what acts do to them. */
    private static final class Diocese {
        int there = ALL_THERE;
        int hair = FIRST_HAIR;
        int year = 0;
        final int[] wool = new int[HASSOCKS];
        final int[] stitches = new int[HASSOCKS];
        final int[] place = new int[HASSOCKS];

        Diocese() {
            for (int h = 0; h < HASSOCKS; h++) {
                wool[h] = FIRST_WOOL;
                place[h] = h;
            }
        }

        void copyFrom(Diocese other) {
            there = other.there;
            hair = other.hair;
            year = other.year;
            for (int h = 0; h < HASSOCKS; h++) {
                wool[h] = other.wool[h];
                stitches[h] = other.stitches[h];
                place[h] = other.place[h];
            }
        }

        boolean isThere(int hassock) {
            return isHassock(hassock) && isIn(there, hassock);
        }

        int howMany() {
            return Integer.bitCount(there);
        }

        void bring(int hassock, int itsWool, int itsStitches) {
            there |= 1 << hassock;
            wool[hassock] = itsWool;
            stitches[hassock] = itsStitches;
        }

        void takeAway(int hassock) {
            there &= ~(1 << hassock);
        }

        void changePlaces(int one, int other) {
            int kept = place[one];
            place[one] = place[other];
            place[other] = kept;
        }

        int stitchesInAll() {
            int sum = 0;
            for (int h = 0; h < HASSOCKS; h++) {
                if (isIn(there, h)) {
                    sum += Integer.bitCount(stitches[h]);
                }
            }
            return sum;
        }

        int howManyHaveSome(int set) {
            int count = 0;
            for (int h = 0; h < HASSOCKS; h++) {
                if (isIn(there, h) && (stitches[h] & set) != 0) {
                    count++;
                }
            }
            return count;
        }

        int bordersInPlaces() {
            int sum = 0;
            int before = NONE;
            for (int p = 0; p < HASSOCKS; p++) {
                int next = whoIsAt(p);
                if (next != NONE) {
                    sum += before == NONE ? 0 : Integer.bitCount(before ^ stitches[next]);
                    before = stitches[next];
                }
            }
            return sum;
        }

        /** Of those that are there; NONE, if the one of that place is not. */
        private int whoIsAt(int spot) {
            for (int h = 0; h < HASSOCKS; h++) {
                if (place[h] == spot && isIn(there, h)) {
                    return h;
                }
            }
            return NONE;
        }

        /** Does an act, if it can be: CAN_BE, or why it can not. */
        int attempt(int kind, int who, int number) {
            int why = whyNot(kind, who, number);
            if (why == CAN_BE) {
                perform(kind, who, number);
            }
            return why;
        }

        private int whyNot(int kind, int who, int number) {
            if (kind == YEAR) {
                return year >= LAST_YEAR ? YEARS_OVER : CAN_BE;
            }
            if (!isThere(who)) {
                return NOT_THERE;
            }
            switch (kind) {
                case STUFF:
                    if (hair < 5) {
                        return NO_HAIR;
                    }
                    return wool[who] >= MOST_WOOL ? WOOL_FULL : CAN_BE;
                case UNITE:
                case CHANGE:
                    if (!isThere(number)) {
                        return NOT_THERE;
                    }
                    return who == number ? BOTH_ONE : CAN_BE;
                case SELL:
                    return howMany() == 1 ? LAST_ONE : CAN_BE;
                default:
                    return CAN_BE;
            }
        }

        /** Only for acts that whyNot lets pass: it has looked at both numbers. */
        private void perform(int kind, int who, int number) {
            switch (kind) {
                case KNEES:
                    kneelOn(who, number);
                    break;
                case STUFF:
                    wool[who] = Math.min(MOST_WOOL, wool[who] + 20);
                    hair -= 5;
                    break;
                case NEEDLE:
                    stitches[who] ^= 1 << number;
                    break;
                case UNITE:
                    wool[who] = Math.min(MOST_WOOL, wool[who] + wool[number]);
                    stitches[who] |= stitches[number];
                    takeAway(number);
                    break;
                case CHANGE:
                    changePlaces(who, number);
                    break;
                case SELL:
                    takeAway(who);
                    hair = Math.min(MOST_HAIR, hair + 10);
                    break;
                default:
                    passYear();
                    break;
            }
        }

        private void kneelOn(int who, int times) {
            wool[who] -= 3 * times;
            if (wool[who] <= 0) {
                takeAway(who);
            }
        }

        private void passYear() {
            year++;
            for (int h = 0; h < HASSOCKS; h++) {
                if (isIn(there, h) && wool[h] < 20) {
                    stitches[h] = withoutHighest(stitches[h]);
                } else if (isIn(there, h) && wool[h] >= 50) {
                    wool[h]--;
                    hair = Math.min(MOST_HAIR, hair + 1);
                }
            }
        }

        private static int withoutHighest(int pattern) {
            for (int stitch = STITCHES - 1; stitch >= 0; stitch--) {
                if (isIn(pattern, stitch)) {
                    return pattern ^ 1 << stitch;
                }
            }
            return pattern;
        }
    }

    /** The signs said so far, and how acts are read from them. */
    private static final class Pad {
        int count = 0;
        private final int[] signs = new int[MOST_SIGNS];

        boolean write(int sign) {
            if (count >= MOST_SIGNS) {
                return false;
            }
            signs[count] = sign;
            count++;
            return true;
        }

        void clear() {
            count = 0;
        }

        int firstFault() {
            int at = 0;
            for (int act = 0; act < MOST_SIGNS && at < count; act++) {
                int bad = faultOfAct(at);
                if (bad != NONE) {
                    return bad;
                }
                at += lengthAt(at);
            }
            return NONE;
        }

        /** A sign that is missing counts as one that can not stand: its place is the number of signs. */
        private int faultOfAct(int at) {
            if (signAt(at) == '.') {
                return NONE;
            }
            if (!isLetter(signAt(at))) {
                return at;
            }
            int deed = signAt(at + 1);
            if (isWithin(deed, '1', '9') || deed == '+' || deed == '$') {
                return NONE;
            }
            if (deed == '*') {
                return isWithin(signAt(at + 2), '0', '7') ? NONE : at + 2;
            }
            if (deed == '&' || deed == '=') {
                return isLetter(signAt(at + 2)) ? NONE : at + 2;
            }
            return at + 1;
        }

        int kindAt(int at) {
            if (signAt(at) == '.') {
                return YEAR;
            }
            switch (signAt(at + 1)) {
                case '+':
                    return STUFF;
                case '*':
                    return NEEDLE;
                case '&':
                    return UNITE;
                case '=':
                    return CHANGE;
                case '$':
                    return SELL;
                default:
                    return KNEES;
            }
        }

        int lengthAt(int at) {
            switch (kindAt(at)) {
                case YEAR:
                    return 1;
                case NEEDLE:
                case UNITE:
                case CHANGE:
                    return 3;
                default:
                    return 2;
            }
        }

        int whoAt(int at) {
            return signAt(at) - 'A';
        }

        /** The number that goes with the act: of knees, of a stitch, or of the other hassock. */
        int numberAt(int at) {
            switch (kindAt(at)) {
                case KNEES:
                    return signAt(at + 1) - '0';
                case NEEDLE:
                    return signAt(at + 2) - '0';
                case UNITE:
                case CHANGE:
                    return signAt(at + 2) - 'A';
                default:
                    return 0;
            }
        }

        private int signAt(int at) {
            return at >= 0 && at < count && at < MOST_SIGNS ? signs[at] : NO_SIGN;
        }

        private static boolean isLetter(int sign) {
            return isWithin(sign, 'A', 'J');
        }
    }

    /** What came of a text, up to the first act that can not be. */
    private static final class Years {
        int acts;
        int badAct;
        int reason;
        int sweptCount;
        int sweepingAct;
        int sweptHassock;

        void run(Pad pad, Diocese diocese) {
            acts = 0;
            badAct = NONE;
            reason = NONE;
            sweptCount = 0;
            sweepingAct = NONE;
            sweptHassock = NONE;
            int at = 0;
            for (int act = 0; act < MOST_SIGNS && at < pad.count; act++) {
                int kind = pad.kindAt(at);
                int who = pad.whoAt(at);
                int why = diocese.attempt(kind, who, pad.numberAt(at));
                if (why != CAN_BE) {
                    badAct = act;
                    reason = why;
                    return;
                }
                if (kind == KNEES && !diocese.isThere(who)) {
                    noteSwept(who);
                }
                acts++;
                at += pad.lengthAt(at);
            }
        }

        private void noteSwept(int who) {
            if (sweptCount == 0) {
                sweepingAct = acts;
                sweptHassock = who;
            }
            sweptCount++;
        }
    }

    /** What is best over all sets of hassocks; the tables are made once and serve every call. */
    private static final class Arrangements {
        int leastBorders;
        int firstInRow;
        /** Borders of two, by 10 times the one, and the other. */
        private final int[] between = new int[HASSOCKS * HASSOCKS];
        /** The least borders of a row of a set, by 10 times the set, and who stands at its end. */
        private final int[] rowOf = new int[SETS * HASSOCKS];
        private final int[] stitchesOf = new int[SETS];
        private final int[] parishesOf = new int[SETS];
        /** What a pile of a set weighs; NONE, if it can not be piled. */
        private final int[] weightOf = new int[SETS];

        void rank(Diocese diocese) {
            int there = diocese.there & ALL_THERE;
            measureBorders(diocese);
            for (int set = 1; set <= there; set++) {
                if ((set & ~there) == 0) {
                    rankSet(set);
                }
            }
            leastBorders = 0;
            firstInRow = NONE;
            // A row read backwards has the same borders, so who can end a best row can begin one.
            for (int h = 0; h < HASSOCKS; h++) {
                if (isIn(there, h) && (firstInRow == NONE || rowOf[there * HASSOCKS + h] < leastBorders)) {
                    firstInRow = h;
                    leastBorders = rowOf[there * HASSOCKS + h];
                }
            }
        }

        private void measureBorders(Diocese diocese) {
            for (int one = 0; one < HASSOCKS; one++) {
                for (int other = 0; other < HASSOCKS; other++) {
                    between[one * HASSOCKS + other] =
                            Integer.bitCount(diocese.stitches[one] ^ diocese.stitches[other]);
                }
            }
        }

        private void rankSet(int set) {
            for (int last = 0; last < HASSOCKS; last++) {
                if (isIn(set, last)) {
                    rowOf[set * HASSOCKS + last] = leastRow(set & ~(1 << last), last);
                }
            }
        }

        private int leastRow(int others, int last) {
            if (others == 0) {
                return 0;
            }
            int least = NONE;
            for (int before = 0; before < HASSOCKS; before++) {
                if (isIn(others, before)) {
                    int sum = rowOf[others * HASSOCKS + before] + between[before * HASSOCKS + last];
                    least = least == NONE ? sum : Math.min(least, sum);
                }
            }
            return least;
        }

        int mostParishes(Diocese diocese, int wanted) {
            int whole = 0;
            int partial = 0;
            for (int h = 0; h < HASSOCKS; h++) {
                int some = diocese.stitches[h] & wanted;
                if (isIn(diocese.there, h) && some == wanted) {
                    whole++;
                } else if (isIn(diocese.there, h) && some != 0) {
                    partial |= 1 << h;
                }
            }
            // One that has all by itself is best left by itself, so only the others are united.
            return whole + mostUnions(diocese, partial, wanted);
        }

        private int mostUnions(Diocese diocese, int all, int wanted) {
            stitchesOf[0] = 0;
            parishesOf[0] = 0;
            for (int h = 0; h < HASSOCKS; h++) {
                if (isIn(all, h)) {
                    reckonWith(1 << h, diocese.stitches[h] & wanted, all, wanted);
                }
            }
            return parishesOf[all];
        }

        /** All sets in which the next is the highest: those without it have been reckoned before. */
        private void reckonWith(int next, int some, int all, int wanted) {
            for (int others = 0; others < next; others++) {
                if ((others & ~all) == 0) {
                    int set = others | next;
                    stitchesOf[set] = stitchesOf[others] | some;
                    parishesOf[set] = stitchesOf[set] == wanted ? mostWith(next, others, wanted) : 0;
                }
            }
        }

        /** The next is left over, or in a union with some of the others: by itself it has not all. */
        private int mostWith(int next, int others, int wanted) {
            int most = parishesOf[others];
            int joined = others;
            for (int i = 0; i < SETS && joined != 0; i++) {
                if (stitchesOf[joined | next] == wanted) {
                    most = Math.max(most, 1 + parishesOf[others ^ joined]);
                }
                joined = (joined - 1) & others;
            }
            return most;
        }

        int highestPile(Diocese diocese) {
            int there = diocese.there & ALL_THERE;
            int highest = 0;
            weightOf[0] = 0;
            for (int set = 1; set <= there; set++) {
                if ((set & ~there) == 0) {
                    weightOf[set] = weighPile(diocese, set);
                    if (weightOf[set] != NONE && Integer.bitCount(set) > Integer.bitCount(highest)) {
                        highest = set;
                    }
                }
            }
            return highest;
        }

        private int weighPile(Diocese diocese, int set) {
            for (int bottom = 0; bottom < HASSOCKS; bottom++) {
                if (isIn(set, bottom)) {
                    int above = weightOf[set & ~(1 << bottom)];
                    if (above != NONE && above <= diocese.wool[bottom] / 5) {
                        return above + 1 + Integer.bitCount(diocese.stitches[bottom]);
                    }
                }
            }
            return NONE;
        }
    }

    /** The game of unpicking, known for every pattern beforehand. */
    private static final class Unpicking {
        /** 10 times the stitch, and how many; NONE, if who is to unpick loses. */
        private final int[] moveOf = new int[ALL_STITCHES + 1];

        Unpicking() {
            for (int pattern = 0; pattern <= ALL_STITCHES; pattern++) {
                moveOf[pattern] = findMove(pattern);
            }
        }

        int leastWinningMove(int pattern) {
            return moveOf[pattern & ALL_STITCHES];
        }

        /** Patterns with fewer stitches are lesser numbers, so what is left has been reckoned before. */
        private int findMove(int pattern) {
            for (int stitch = 0; stitch < STITCHES; stitch++) {
                int one = 1 << stitch;
                int two = 3 << stitch;
                if ((pattern & one) == one && moveOf[pattern ^ one] == NONE) {
                    return 10 * stitch + 1;
                }
                if ((pattern & two) == two && moveOf[pattern ^ two] == NONE) {
                    return 10 * stitch + 2;
                }
            }
            return NONE;
        }
    }

    /** What was felt, behind how many Sundays. */
    private static final class Sights {
        int count = 0;
        final int[] sundays = new int[MOST_SIGHTS];
        final int[] felt = new int[MOST_SIGHTS];

        boolean add(int behind, int v) {
            if (count >= MOST_SIGHTS) {
                return false;
            }
            sundays[count] = behind;
            felt[count] = v;
            count++;
            return true;
        }

        void copyFrom(Sights other) {
            count = other.count;
            for (int i = 0; i < MOST_SIGHTS; i++) {
                sundays[i] = other.sundays[i];
                felt[i] = other.felt[i];
            }
        }

        boolean allAreSo(int a, int c) {
            for (int i = 0; i < count && i < MOST_SIGHTS; i++) {
                if (Wear.woolBehind(sundays[i], a, c) != felt[i]) {
                    return false;
                }
            }
            return true;
        }
    }

    /** By which a and c the sights are so, and which Sunday tells these apart best. */
    private static final class Wear {
        int count;
        int bestSunday;
        int mostLeft;
        private final int[] fitting = new int[MOST_FITS];
        private final int[] feltSo = new int[FEELINGS];

        static int woolBehind(int sundays, int a, int c) {
            return Math.max(0, MOST_WOOL - sundays * a - c * (sundays / 4));
        }

        void fit(Sights sights) {
            count = 0;
            for (int a = 1; a <= 9; a++) {
                for (int c = 0; c <= 9; c++) {
                    if (count < MOST_FITS && sights.allAreSo(a, c)) {
                        fitting[count] = 10 * a + c;
                        count++;
                    }
                }
            }
        }

        int fitAt(int i) {
            return i >= 0 && i < count && i < MOST_FITS ? fitting[i] : NONE;
        }

        void chooseSunday() {
            bestSunday = NONE;
            mostLeft = NONE;
            for (int sunday = 0; sunday <= LAST_SUNDAY && count > 0; sunday++) {
                int left = mostLeftBy(sunday);
                if (bestSunday == NONE || left < mostLeft) {
                    bestSunday = sunday;
                    mostLeft = left;
                }
            }
        }

        private int mostLeftBy(int sunday) {
            for (int v = 0; v < FEELINGS; v++) {
                feltSo[v] = 0;
            }
            int most = 0;
            for (int i = 0; i < count && i < MOST_FITS; i++) {
                int v = woolBehind(sunday, fitting[i] / 10, fitting[i] % 10);
                if (v < FEELINGS) {
                    feltSo[v]++;
                    most = Math.max(most, feltSo[v]);
                }
            }
            return most;
        }
    }

    /** All but the pad, as it was when it was kept. */
    private static final class Image {
        private boolean kept = false;
        private final Diocese diocese = new Diocese();
        private final Sights sights = new Sights();

        void keep(Diocese nowThere, Sights nowFelt) {
            diocese.copyFrom(nowThere);
            sights.copyFrom(nowFelt);
            kept = true;
        }

        boolean bringBack(Diocese nowThere, Sights nowFelt) {
            if (kept) {
                nowThere.copyFrom(diocese);
                nowFelt.copyFrom(sights);
            }
            return kept;
        }
    }
}

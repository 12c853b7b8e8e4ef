import java.math.BigInteger;
import java.util.ArrayList;
import java.util.Comparator;
import java.util.HashMap;
import java.util.List;
import java.util.Map;
import java.util.TreeMap;
import java.util.regex.Matcher;
import java.util.regex.Pattern;

/**
 * The document once more, by other ways than the class goes: texts by a regular expression, rows by trying them,
 * unions by dealing out, piles by sorting, unpicking by the numbers of Kayles, moths year by year.
 */
final class PlainModel {
    private static final int UNKNOWN = -1, OUTSIDE = -2, STATE = -3, FULL = -4, NO = -5, NONE = -6;
    private static final long GONE_OUTSIDE = -1000000000000000002L;
    private static final String ACT = "(?:[A-J](?:[1-9+$]|\\*[0-7]|[&=][A-J])|\\.)";
    private static final Pattern TEXT = Pattern.compile(ACT + "*");
    private static final int[] KAYLES = {0, 1, 2, 3, 1, 4, 3, 2, 1};

    private static final class Parish {
        boolean there = true;
        int wool = 50;
        int stitches = 0;
        int place;
    }

    private static final class World {
        final Parish[] parishes = new Parish[10];
        int hair = 20;
        int year = 0;
        final List<int[]> sights = new ArrayList<>();

        World() {
            for (int h = 0; h < 10; h++) {
                parishes[h] = new Parish();
                parishes[h].place = h;
            }
        }

        World copy() {
            World other = new World();
            for (int h = 0; h < 10; h++) {
                other.parishes[h].there = parishes[h].there;
                other.parishes[h].wool = parishes[h].wool;
                other.parishes[h].stitches = parishes[h].stitches;
                other.parishes[h].place = parishes[h].place;
            }
            other.hair = hair;
            other.year = year;
            other.sights.addAll(sights);
            return other;
        }

        List<Parish> present() {
            List<Parish> list = new ArrayList<>();
            for (Parish p : parishes) {
                if (p.there) {
                    list.add(p);
                }
            }
            return list;
        }

        int bits() {
            int bits = 0;
            for (int h = 0; h < 10; h++) {
                bits += parishes[h].there ? 1 << h : 0;
            }
            return bits;
        }

        int borders() {
            List<Parish> row = present();
            row.sort(Comparator.comparingInt(p -> p.place));
            int sum = 0;
            for (int i = 1; i < row.size(); i++) {
                sum += Integer.bitCount(row.get(i - 1).stitches ^ row.get(i).stitches);
            }
            return sum;
        }

        /** An act as it stands in a text: 0, or why it can not be. */
        int act(String act) {
            char deed = act.length() == 1 ? '.' : act.charAt(1);
            Parish one = deed == '.' ? null : parishes[act.charAt(0) - 'A'];
            Parish other = deed == '&' || deed == '=' ? parishes[act.charAt(2) - 'A'] : null;
            if (one != null && !one.there || other != null && !other.there) {
                return 1;
            }
            if (deed == '+' && hair < 5) {
                return 2;
            }
            if (deed == '+' && one.wool == 99) {
                return 3;
            }
            if (other != null && one == other) {
                return 4;
            }
            if (deed == '$' && present().size() == 1) {
                return 5;
            }
            if (deed == '.' && year == 99) {
                return 6;
            }
            if (deed == '.') {
                year++;
                for (Parish p : present()) {
                    if (p.wool < 20) {
                        p.stitches -= Integer.highestOneBit(p.stitches);
                    }
                    if (p.wool >= 50) {
                        p.wool--;
                        hair = Math.min(hair + 1, 999);
                    }
                }
            } else if (deed == '+') {
                one.wool = Math.min(one.wool + 20, 99);
                hair -= 5;
            } else if (deed == '$') {
                one.there = false;
                hair = Math.min(hair + 10, 999);
            } else if (deed == '*') {
                one.stitches ^= 1 << act.charAt(2) - '0';
            } else if (deed == '&') {
                one.wool = Math.min(one.wool + other.wool, 99);
                one.stitches |= other.stitches;
                other.there = false;
            } else if (deed == '=') {
                int kept = one.place;
                one.place = other.place;
                other.place = kept;
            } else {
                one.wool -= 3 * (deed - '0');
                one.there = one.wool > 0;
            }
            return 0;
        }
    }

    private World now = new World();
    private final StringBuilder pad = new StringBuilder();
    private final World[] images = new World[2];

    private World later;
    private int acts;
    private int badAct;
    private int why;
    private final List<int[]> sweepings = new ArrayList<>();

    private static boolean in(int v, int least, int most) {
        return least <= v && v <= most;
    }

    int hassock(int h, int wool, int stitches) {
        if (!in(h, 0, 9)) {
            return UNKNOWN;
        }
        if (!in(wool, 1, 99) || !in(stitches, 0, 255)) {
            return OUTSIDE;
        }
        now.parishes[h].there = true;
        now.parishes[h].wool = wool;
        now.parishes[h].stitches = stitches;
        return now.present().size();
    }

    int gone(int h) {
        if (!in(h, 0, 9) || !now.parishes[h].there) {
            return UNKNOWN;
        }
        now.parishes[h].there = false;
        return now.present().size();
    }

    int hair(int v) {
        if (!in(v, 0, 999)) {
            return OUTSIDE;
        }
        int was = now.hair;
        now.hair = v;
        return was;
    }

    int swap(int one, int other) {
        if (!in(one, 0, 9) || !in(other, 0, 9) || one == other) {
            return UNKNOWN;
        }
        int kept = now.parishes[one].place;
        now.parishes[one].place = now.parishes[other].place;
        now.parishes[other].place = kept;
        return now.parishes[one].place;
    }

    int say(int sign) {
        if (!in(sign, 33, 126)) {
            return OUTSIDE;
        }
        if (pad.length() == 60) {
            return FULL;
        }
        pad.append((char) sign);
        return pad.length();
    }

    int wipe() {
        int was = pad.length();
        pad.setLength(0);
        return was;
    }

    int fault() {
        for (int n = 1; n <= pad.length(); n++) {
            Matcher matcher = TEXT.matcher(pad.substring(0, n));
            if (!matcher.matches() && !matcher.hitEnd()) {
                return n - 1;
            }
        }
        return TEXT.matcher(pad).matches() ? NONE : pad.length();
    }

    private void read() {
        later = now.copy();
        acts = 0;
        badAct = NONE;
        why = NONE;
        sweepings.clear();
        Matcher matcher = Pattern.compile(ACT).matcher(pad);
        while (matcher.find()) {
            int before = later.bits();
            int reason = later.act(matcher.group());
            if (reason != 0) {
                badAct = acts;
                why = reason;
                return;
            }
            if (Character.isDigit(matcher.group().charAt(matcher.group().length() == 2 ? 1 : 0))
                    && later.bits() != before) {
                sweepings.add(new int[] {acts, matcher.group().charAt(0) - 'A'});
            }
            acts++;
        }
    }

    private int refusal() {
        if (fault() != NONE) {
            return NO;
        }
        read();
        return badAct == NONE ? 0 : STATE;
    }

    int judge(int what) {
        if (!in(what, 0, 2)) {
            return OUTSIDE;
        }
        int refusal = refusal();
        if (refusal == NO || refusal == STATE && what == 2) {
            return refusal;
        }
        return new int[] {badAct, why, sweepings.size()}[what];
    }

    int behind(int h, int what) {
        if (!in(h, 0, 9)) {
            return UNKNOWN;
        }
        if (!in(what, 0, 3)) {
            return OUTSIDE;
        }
        int refusal = refusal();
        if (refusal != 0) {
            return refusal;
        }
        Parish p = later.parishes[h];
        return new int[] {p.there ? 1 : 0, p.there ? p.wool : NONE, p.there ? p.stitches : NONE, p.place}[what];
    }

    int see(int what) {
        if (!in(what, 0, 3)) {
            return OUTSIDE;
        }
        int refusal = refusal();
        if (refusal != 0) {
            return refusal;
        }
        int stitches = later.present().stream().mapToInt(p -> Integer.bitCount(p.stitches)).sum();
        return new int[] {later.hair, later.bits(), stitches, later.year}[what];
    }

    int swept(int what) {
        if (!in(what, 0, 1)) {
            return OUTSIDE;
        }
        int refusal = refusal();
        if (refusal != 0) {
            return refusal;
        }
        return sweepings.isEmpty() ? NONE : sweepings.get(0)[what];
    }

    int done() {
        int refusal = refusal();
        if (refusal != 0) {
            return refusal;
        }
        now = later;
        pad.setLength(0);
        return acts;
    }

    int borders() {
        return now.borders();
    }

    int row(int what) {
        if (!in(what, 0, 1)) {
            return OUTSIDE;
        }
        if (now.bits() == 0) {
            return what == 0 ? 0 : NONE;
        }
        int[] best = {Integer.MAX_VALUE, NONE};
        for (int h = 0; h < 10; h++) {
            if (now.parishes[h].there) {
                tryRows(now.bits() & ~(1 << h), h, h, 0, best);
            }
        }
        return best[what];
    }

    private void tryRows(int left, int last, int first, int sum, int[] best) {
        if (sum >= best[0]) {
            return;
        }
        if (left == 0) {
            best[0] = sum;
            best[1] = first;
            return;
        }
        for (int h = 0; h < 10; h++) {
            if ((left >> h & 1) == 1) {
                int more = Integer.bitCount(now.parishes[last].stitches ^ now.parishes[h].stitches);
                tryRows(left & ~(1 << h), h, first, sum + more, best);
            }
        }
    }

    int most(int set, int what) {
        if (!in(set, 1, 255) || !in(what, 0, 1)) {
            return OUTSIDE;
        }
        List<Integer> some = new ArrayList<>();
        for (Parish p : now.present()) {
            if ((p.stitches & set) != 0) {
                some.add(p.stitches & set);
            }
        }
        return what == 1 ? some.size() : dealOut(some, 0, new int[10], 0, set);
    }

    private static int dealOut(List<Integer> some, int at, int[] unions, int count, int set) {
        if (at == some.size()) {
            int whole = 0;
            for (int i = 0; i < count; i++) {
                whole += unions[i] == set ? 1 : 0;
            }
            return whole;
        }
        int best = 0;
        for (int i = 0; i <= count; i++) {
            int kept = unions[i];
            unions[i] |= some.get(at);
            best = Math.max(best, dealOut(some, at + 1, unions, Math.max(count, i + 1), set));
            unions[i] = kept;
        }
        return best;
    }

    int pile(int what) {
        if (!in(what, 0, 1)) {
            return OUTSIDE;
        }
        int best = 0;
        for (int set = 1; set < 1024; set++) {
            if ((set & ~now.bits()) == 0 && Integer.bitCount(set) > Integer.bitCount(best) && stands(set)) {
                best = set;
            }
        }
        return what == 0 ? Integer.bitCount(best) : best;
    }

    /** If a set can be piled at all, it can be so that who bears and weighs least together is above. */
    private boolean stands(int set) {
        List<Parish> pile = new ArrayList<>();
        for (int h = 0; h < 10; h++) {
            if ((set >> h & 1) == 1) {
                pile.add(now.parishes[h]);
            }
        }
        pile.sort(Comparator.comparingInt(p -> p.wool / 5 + Integer.bitCount(p.stitches)));
        int above = 0;
        for (Parish p : pile) {
            if (5 * above > p.wool) {
                return false;
            }
            above += 1 + Integer.bitCount(p.stitches);
        }
        return true;
    }

    int felt(int sundays, int v) {
        if (!in(sundays, 0, 60) || !in(v, 0, 99)) {
            return OUTSIDE;
        }
        if (now.sights.size() == 8) {
            return FULL;
        }
        now.sights.add(new int[] {sundays, v});
        return now.sights.size();
    }

    int forget() {
        int was = now.sights.size();
        now.sights.clear();
        return was;
    }

    private static int worn(int sundays, int ac) {
        int wool = 99;
        for (int i = 1; i <= sundays; i++) {
            wool -= ac / 10 + (i % 4 == 0 ? ac % 10 : 0);
        }
        return Math.max(wool, 0);
    }

    private List<Integer> fitting() {
        List<Integer> list = new ArrayList<>();
        for (int ac = 10; ac <= 99; ac++) {
            boolean so = true;
            for (int[] sight : now.sights) {
                so &= worn(sight[0], ac) == sight[1];
            }
            if (so) {
                list.add(ac);
            }
        }
        return list;
    }

    int fits(int i) {
        List<Integer> list = fitting();
        if (i == -1) {
            return list.size();
        }
        return i < 0 || i >= list.size() ? NONE : list.get(i);
    }

    int ask(int what) {
        if (!in(what, 0, 1)) {
            return OUTSIDE;
        }
        List<Integer> list = fitting();
        if (list.isEmpty()) {
            return NONE;
        }
        TreeMap<Integer, Integer> leastSundayOf = new TreeMap<>();
        for (int sunday = 0; sunday <= 60; sunday++) {
            Map<Integer, Integer> groups = new HashMap<>();
            for (int ac : list) {
                groups.merge(worn(sunday, ac), 1, Integer::sum);
            }
            leastSundayOf.putIfAbsent(groups.values().stream().max(Integer::compare).get(), sunday);
        }
        return what == 0 ? leastSundayOf.firstEntry().getValue() : leastSundayOf.firstKey();
    }

    private static int kayles(int pattern) {
        int sum = 0;
        for (String run : Integer.toBinaryString(pattern).split("0+")) {
            sum ^= KAYLES[run.length()];
        }
        return sum;
    }

    int unpick(int h, int what) {
        if (!in(h, 0, 9) || !now.parishes[h].there) {
            return UNKNOWN;
        }
        if (!in(what, 0, 1)) {
            return OUTSIDE;
        }
        int pattern = now.parishes[h].stitches;
        if (what == 0) {
            return kayles(pattern) == 0 ? 0 : 1;
        }
        for (int move = 1; move <= 71; move++) {
            int taken = (move % 10 == 1 ? 1 : 3) << move / 10;
            if (move % 10 <= 2 && move % 10 >= 1 && (pattern & taken) == taken && kayles(pattern - taken) == 0) {
                return move;
            }
        }
        return NONE;
    }

    long moths(int n, int m, int t, int what, int part) {
        if (!in(n, 0, 16) || !in(m, 0, 16) || (long) n * m > 16 || !in(t, 0, 10) || !in(what, 0, 1)
                || !in(part, 0, 1)) {
            return GONE_OUTSIDE;
        }
        // By how many are left: in how many of ten to the n times years.
        BigInteger[] left = new BigInteger[n + 1];
        for (int i = 0; i <= n; i++) {
            left[i] = i == n ? BigInteger.ONE : BigInteger.ZERO;
        }
        BigInteger lower = BigInteger.ONE;
        for (int year = 0; year < m; year++) {
            left = yearOfMoths(left, n, t);
            lower = lower.multiply(BigInteger.TEN.pow(n));
        }
        BigInteger upper = left[0];
        if (what == 1) {
            upper = BigInteger.ZERO;
            for (int i = 1; i <= n; i++) {
                upper = upper.add(left[i].multiply(BigInteger.valueOf(i)));
            }
        }
        BigInteger common = upper.gcd(lower);
        return (part == 0 ? upper : lower).divide(common).longValueExact();
    }

    private static BigInteger[] yearOfMoths(BigInteger[] left, int n, int t) {
        BigInteger[] next = new BigInteger[n + 1];
        java.util.Arrays.fill(next, BigInteger.ZERO);
        for (int i = 0; i <= n; i++) {
            BigInteger ways = BigInteger.ONE;
            for (int eaten = 0; eaten <= i; eaten++) {
                BigInteger weight = BigInteger.valueOf(t).pow(eaten)
                        .multiply(BigInteger.valueOf(10 - t).pow(i - eaten)).multiply(BigInteger.TEN.pow(n - i));
                next[i - eaten] = next[i - eaten].add(left[i].multiply(ways).multiply(weight));
                ways = ways.multiply(BigInteger.valueOf(i - eaten)).divide(BigInteger.valueOf(eaten + 1));
            }
        }
        return next;
    }

    int book(int seed, int m, int what) {
        if (!in(seed, 0, 9999) || !in(m, 1, 99) || !in(what, 0, 2)) {
            return OUTSIDE;
        }
        World world = now.copy();
        int x = seed;
        for (int i = 0; i < m; i++) {
            x = (75 * x + 74) % 65537;
            int z = x / 80;
            String who = "" + (char) ('A' + x % 10);
            String other = "" + (char) ('A' + z % 10);
            String[] draws = {who + (1 + z % 9), who + (1 + z % 9), who + "+", who + "*" + z % 8, who + "*" + z % 8,
                who + "&" + other, who + "=" + other, "."};
            int draw = x / 10 % 8;
            if (draw != 5 || z % 8 == 0) {
                world.act(draws[draw]);
            }
        }
        return new int[] {world.present().size(), world.hair, world.borders()}[what];
    }

    int image(int k) {
        if (!in(k, 0, 1)) {
            return OUTSIDE;
        }
        images[k] = now.copy();
        return 1;
    }

    int restore(int k) {
        if (!in(k, 0, 1)) {
            return OUTSIDE;
        }
        if (images[k] == null) {
            return STATE;
        }
        now = images[k].copy();
        return 1;
    }

    int told(int what) {
        if (in(what, 0, 4)) {
            return new int[] {pad.length(), now.bits(), now.hair, now.year, now.sights.size()}[what];
        }
        if (!in(what, 10, 39) || what >= 20 && !now.parishes[what % 10].there) {
            return OUTSIDE;
        }
        Parish p = now.parishes[what % 10];
        return new int[] {p.place, p.wool, p.stitches}[what / 10 - 1];
    }

    int present() {
        return now.bits();
    }
}

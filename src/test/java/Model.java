import java.math.BigDecimal;
import java.math.BigInteger;
import java.math.RoundingMode;
import java.util.ArrayDeque;
import java.util.Arrays;
import java.util.Deque;

/**
 * A second, slow way to each answer: all outcomes one by one, in exact decimals.
 * It shares nothing with the program but the document.
 */
final class Model {
    static final long NOTHING = -1000000000000000L;
    private static final BigDecimal HUNDRED = BigDecimal.valueOf(100);
    private static final BigDecimal MILLION = BigDecimal.valueOf(1000000);

    int seats, bench, plate, lack, maybe = 5, soon = 50, more = 2, guests;
    int[] comes = new int[8], joy = new int[8], with = new int[8], slight = new int[8];
    boolean[][] pulls = new boolean[8][8], hears = new boolean[8][8];
    Term late;

    State now = new State();
    Deque<State> past = new ArrayDeque<>();
    long seed = 1;

    static final class State {
        int week = 0;
        int[] how = new int[8];
        int[] cardWeek = new int[8];

        State() {
            Arrays.fill(cardWeek, -1);
        }

        State copy() {
            State other = new State();
            other.week = week;
            other.how = how.clone();
            other.cardWeek = cardWeek.clone();
            return other;
        }

        int first() {
            return Arrays.stream(cardWeek).filter(w -> w >= 0).min().orElse(-1);
        }
    }

    /** A part of a SUM or a TEST. */
    interface Term {
        long of(Model m, State s, int g);
    }

    static long clamp(long v) {
        return v > 1000000 ? 1000000 : v < -1000000 ? -1000000 : v;
    }

    static boolean in(int set, int g) {
        return (set & 1 << g) != 0;
    }

    boolean whole(State s, int set) {
        for (int a = 0; a < guests; a++) {
            for (int b = 0; b < guests; b++) {
                if (in(set, a) && pulls[a][b] && !in(set, b) && s.how[b] == 0) {
                    return false;
                }
            }
        }
        return true;
    }

    boolean can(State s, int set) {
        if (set < 0 || set >= 1 << guests) {
            return false;
        }
        for (int g = 0; g < guests; g++) {
            if (in(set, g) && s.how[g] != 0) {
                return false;
            }
        }
        return whole(s, set);
    }

    State sent(State s, int set) {
        State t = s.copy();
        for (int g = 0; g < guests; g++) {
            if (in(set, g)) {
                t.how[g] = 1;
                t.cardWeek[g] = s.week;
            }
        }
        return t;
    }

    int tenths(State s, int g) {
        return new int[] {0, comes[g], 10, 0, maybe}[s.how[g]];
    }

    BigDecimal odds(State s, int who) {
        BigDecimal p = BigDecimal.ONE;
        for (int g = 0; g < guests; g++) {
            int t = tenths(s, g);
            p = p.multiply(BigDecimal.valueOf(in(who, g) ? t : 10 - t, 1));
        }
        return p;
    }

    int heads(int who) {
        int sum = 0;
        for (int g = 0; g < guests; g++) {
            sum += in(who, g) ? 1 + with[g] : 0;
        }
        return sum;
    }

    int joys(int who) {
        int sum = 0;
        for (int g = 0; g < guests; g++) {
            sum += in(who, g) ? joy[g] : 0;
        }
        return sum;
    }

    static long floor(BigDecimal value) {
        return value.setScale(0, RoundingMode.FLOOR).longValueExact();
    }

    long odds(int n, boolean above) {
        BigDecimal sum = BigDecimal.ZERO;
        for (int who = 0; who < 1 << guests; who++) {
            if (above ? heads(who) > n : heads(who) == n) {
                sum = sum.add(odds(now, who));
            }
        }
        return floor(sum.multiply(MILLION));
    }

    long answers(int n) {
        int waiting = count(1);
        BigDecimal sum = BigDecimal.ZERO;
        for (int who = 0; who < 1 << waiting; who++) {
            if (Integer.bitCount(who) == n) {
                BigDecimal p = BigDecimal.ONE;
                for (int k = 0; k < waiting; k++) {
                    p = p.multiply(BigDecimal.valueOf(in(who, k) ? soon : 100 - soon, 2));
                }
                sum = sum.add(p);
            }
        }
        return floor(sum.multiply(MILLION));
    }

    BigDecimal mean(State s) {
        BigDecimal sum = BigDecimal.ZERO;
        for (int who = 0; who < 1 << guests; who++) {
            sum = sum.add(odds(s, who).multiply(BigDecimal.valueOf(heads(who))));
        }
        return sum;
    }

    long offence(State s, int g) {
        if (s.how[g] == 0) {
            for (int b = 0; b < guests; b++) {
                if (hears[g][b] && s.how[b] != 0) {
                    return slight[g];
                }
            }
            return 0;
        }
        if (s.cardWeek[g] == s.first() || late == null) {
            return 0;
        }
        return Math.max(0, Math.min(999, late.of(this, s, g)));
    }

    long offence(State s) {
        long sum = 0;
        for (int g = 0; g < guests; g++) {
            sum += offence(s, g);
        }
        return sum;
    }

    long worth(State s) {
        BigDecimal sum = BigDecimal.valueOf(-offence(s));
        for (int who = 0; who < 1 << guests; who++) {
            int over = Math.max(0, heads(who) - seats);
            sum = sum.add(odds(s, who).multiply(BigDecimal.valueOf(joys(who) - bench * over)));
        }
        return floor(sum.multiply(HUNDRED));
    }

    long would(int set) {
        return can(now, set) ? worth(sent(now, set)) : NOTHING;
    }

    int best(int without) {
        int best = -1;
        for (int set = 0; set < 1 << guests; set++) {
            if ((set & without) == 0 && can(now, set)) {
                if (best < 0 || would(set) > would(best)
                        || would(set) == would(best) && Integer.bitCount(set) < Integer.bitCount(best)) {
                    best = set;
                }
            }
        }
        return best;
    }

    long leave(int g) {
        if (g < 0 || g >= guests || now.how[g] != 0) {
            return -1;
        }
        int without = 1 << g;
        for (int a = 0; a < guests; a++) {
            without |= pulls[a][g] ? 1 << a : 0;
        }
        return would(best(0)) - would(best(without));
    }

    long[] safe() {
        State none = new State();
        long[] found = null;
        for (int set = 0; set < 1 << guests; set++) {
            if (whole(none, set) && heads(set) <= seats) {
                long[] one = {set, offence(sent(none, set)), joys(set)};
                if (found == null || one[1] < found[1] || one[1] == found[1] && one[2] > found[2]) {
                    found = one;
                }
            }
        }
        return found;
    }

    int enough(int n) {
        int found = -1;
        for (int set = 0; set < 1 << guests; set++) {
            if (can(now, set) && mean(sent(now, set)).compareTo(BigDecimal.valueOf(n)) >= 0
                    && (found < 0 || Integer.bitCount(set) < Integer.bitCount(found))) {
                found = set;
            }
        }
        return found;
    }

    BigDecimal cost(State s, int n) {
        BigDecimal sum = BigDecimal.valueOf(n * plate);
        for (int who = 0; who < 1 << guests; who++) {
            sum = sum.add(odds(s, who).multiply(BigDecimal.valueOf(lack * Math.max(0, heads(who) - n))));
        }
        return sum;
    }

    int plates(State s) {
        int least = 0;
        for (int n = 1; n <= 32; n++) {
            if (cost(s, n).compareTo(cost(s, least)) < 0) {
                least = n;
            }
        }
        return least;
    }

    BigDecimal ringCost(int g) {
        BigDecimal sum = BigDecimal.ZERO;
        for (int how = 2; how <= 3; how++) {
            State s = now.copy();
            s.how[g] = how;
            int t = tenths(now, g);
            sum = sum.add(cost(s, plates(s)).multiply(BigDecimal.valueOf(how == 2 ? t : 10 - t, 1)));
        }
        return sum;
    }

    int ring() {
        int found = -1;
        for (int g = 0; g < guests; g++) {
            if ((now.how[g] == 1 || now.how[g] == 4)
                    && (found < 0 || ringCost(g).compareTo(ringCost(found)) < 0)) {
                found = g;
            }
        }
        return found;
    }

    long full() {
        BigInteger told = BigInteger.ONE;
        BigInteger full = BigInteger.ONE;
        for (int g = 0; g < guests; g++) {
            int t = comes[g];
            int f = Math.min(10, t + more);
            if (now.how[g] == 2 || now.how[g] == 3) {
                told = told.multiply(BigInteger.valueOf(now.how[g] == 2 ? t : 10 - t));
                full = full.multiply(BigInteger.valueOf(now.how[g] == 2 ? f : 10 - f));
            }
        }
        BigInteger both = told.add(full);
        return both.signum() == 0 ? 500000
                : full.multiply(BigInteger.valueOf(1000000)).divide(both).longValueExact();
    }

    long seen(int sat, int joy, int what) {
        int count = 0;
        int all = -1;
        int some = 0;
        for (int who = 0; who < 1 << guests; who++) {
            if (heads(who) == sat && joys(who) == joy) {
                count++;
                all &= who;
                some |= who;
            }
        }
        return what == 0 ? count : what == 1 ? (count == 0 ? 0 : all) : some;
    }

    int far(int g) {
        boolean[] has = new boolean[8];
        reach(g, has);
        int set = 0;
        for (int k = 0; k < 8; k++) {
            set |= has[k] ? 1 << k : 0;
        }
        return set;
    }

    private void reach(int g, boolean[] has) {
        if (!has[g]) {
            has[g] = true;
            for (int b = 0; b < guests; b++) {
                if (pulls[g][b]) {
                    reach(b, has);
                }
            }
        }
    }

    int count(int how) {
        return (int) Arrays.stream(now.how).limit(guests).filter(h -> h == how).count();
    }

    int has(int what) {
        int pullsTold = 0;
        for (boolean[] row : pulls) {
            for (boolean one : row) {
                pullsTold += one ? 1 : 0;
            }
        }
        int can = 0;
        for (int g = 0; g < guests; g++) {
            can += now.how[g] != 0 && now.how[g] != 3 ? 1 + with[g] : 0;
        }
        int[] all = {guests, pullsTold, seats, now.week, guests - count(0), count(1), count(2), count(3),
            count(4), can, past.size()};
        return what < 0 || what >= all.length ? -1 : all[what];
    }

    int guest(int g, int what) {
        if (g < 0 || g >= guests) {
            return -1;
        }
        int first = now.first();
        int[] all = {comes[g], joy[g], 1 + with[g], slight[g], now.how[g], tenths(now, g), (int) offence(now, g),
            now.how[g] == 0 ? -1 : now.cardWeek[g] - first};
        return what < 0 || what >= all.length ? -1 : all[what];
    }

    private void act(State next) {
        past.addLast(now);
        if (past.size() > 20) {
            past.removeFirst();
        }
        now = next;
    }

    int send(int set) {
        if (set == 0 || !can(now, set)) {
            return -1;
        }
        act(sent(now, set));
        return Integer.bitCount(set);
    }

    boolean answer(int g, int how) {
        if (g < 0 || g >= guests || now.how[g] == 0 || how < 2 || how > 4 || now.how[g] == how) {
            return false;
        }
        State s = now.copy();
        s.how[g] = how;
        act(s);
        return true;
    }

    boolean weeks(int n) {
        if (n < 1 || n > 99 || now.week + n > 999) {
            return false;
        }
        State s = now.copy();
        s.week += n;
        act(s);
        return true;
    }

    int chance(int n) {
        if (n < 1 || n > 99 || now.week + n > 999) {
            return -1;
        }
        State s = now.copy();
        int answered = 0;
        for (int k = 0; k < n; k++) {
            for (int g = 0; g < guests; g++) {
                if (s.how[g] == 1 && draw(100) < soon) {
                    answered++;
                    s.how[g] = draw(10) < comes[g] ? 2 : 3;
                }
            }
            s.week++;
        }
        act(s);
        return answered;
    }

    private long draw(int m) {
        BigInteger x = BigInteger.valueOf(1103515245).multiply(BigInteger.valueOf(seed))
                .add(BigInteger.valueOf(12345)).mod(BigInteger.ONE.shiftLeft(31));
        seed = x.longValueExact();
        return seed / 64 % m;
    }

    boolean undo() {
        if (past.isEmpty()) {
            return false;
        }
        now = past.removeLast();
        return true;
    }

    byte[] image() {
        byte[] bytes = new byte[5 + 3 * guests];
        int first = now.first();
        pair(bytes, 0, now.week);
        pair(bytes, 2, first < 0 ? 65535 : first);
        for (int g = 0; g < guests; g++) {
            bytes[4 + 3 * g] = (byte) now.how[g];
            pair(bytes, 5 + 3 * g, now.how[g] == 0 ? 0 : now.cardWeek[g] - first);
        }
        check(bytes);
        return bytes;
    }

    static void pair(byte[] bytes, int at, int value) {
        bytes[at] = (byte) (value / 256);
        bytes[at + 1] = (byte) (value % 256);
    }

    static void check(byte[] bytes) {
        int c = 67;
        for (int k = 0; k < bytes.length - 1; k++) {
            c = (3 * c + (bytes[k] & 255)) % 251;
        }
        bytes[bytes.length - 1] = (byte) c;
    }
}

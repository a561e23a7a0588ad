import java.util.ArrayList;
import java.util.List;
import java.util.Random;

/** Runs of calls on weddings made by fixed seeds, each answer held against the Model. */
public final class ModelTest {
    private static final String[] LATE_WORDS = {"weeks", "slight", "joy", "size"};
    private static final String[] ASK_WORDS = {"number", "how", "comes", "joy", "slight", "size", "weeks"};

    private final Random random;
    private final Model m = new Model();
    private final AndGuest x = new AndGuest();
    private final List<String> tokens = new ArrayList<>();
    private final boolean asking;
    private final int number;
    private int calls = 0;

    private ModelTest(int number) {
        this.number = number;
        random = new Random(number);
        asking = false;
    }

    public static void main(String[] args) {
        for (int number = 0; number < 300; number++) {
            new ModelTest(number).run();
        }
        Check.finish("ModelTest");
    }

    private void due(String call, long got, long want) {
        calls++;
        Check.due("wedding " + number + ", " + call, got, want);
    }

    private void due(String call, boolean got, boolean want) {
        due(call, got ? 1 : 0, want ? 1 : 0);
    }

    private int upTo(int most) {
        return random.nextInt(most + 1);
    }

    // ---- texts

    private void say(String words) {
        for (String word : words.split(" ")) {
            tokens.add(word);
        }
    }

    private static boolean run(char c) {
        return c >= 'a' && c <= 'z' || c >= '0' && c <= '9';
    }

    private String text() {
        StringBuilder text = new StringBuilder();
        for (String token : tokens) {
            boolean touch = text.length() > 0 && run(text.charAt(text.length() - 1)) && run(token.charAt(0));
            for (int k = upTo(3) - 2 + (touch ? 2 : 0); k > 0 || touch; k--) {
                text.append(random.nextBoolean() ? ' ' : '\n');
                touch = false;
            }
            text.append(token);
        }
        tokens.clear();
        return text.toString();
    }

    private static String name(int g) {
        return "abcdefgh".substring(g, g + 1).repeat(g % 6 + 1);
    }

    private int tellWedding() {
        m.seats = upTo(random.nextBoolean() ? 8 : 40);
        m.bench = upTo(99);
        m.plate = upTo(random.nextBoolean() ? 20 : 99);
        m.lack = upTo(99);
        say("seats " + m.seats + " bench " + m.bench + " plate " + m.plate + " lack " + m.lack + " ;");
        m.guests = number % 9;
        int statements = 1;
        for (int g = 0; g < m.guests; g++) {
            m.comes[g] = upTo(10);
            m.joy[g] = upTo(random.nextBoolean() ? 3 : 99);
            m.with[g] = upTo(3);
            m.slight[g] = upTo(random.nextBoolean() ? 9 : 99);
            say("guest " + name(g) + " comes " + m.comes[g] + " joy " + m.joy[g] + " with " + m.with[g]
                    + " slight " + m.slight[g] + " ;");
            statements++;
        }
        statements += tellPairs("pulls", m.pulls, upTo(m.guests)) + tellPairs("hears", m.hears, upTo(16));
        if (random.nextInt(3) > 0) {
            say("late");
            m.late = sum(0, LATE_WORDS, false);
            say(";");
            statements++;
        }
        for (int k = upTo(3); k > 0; k--) {
            m.maybe = upTo(10);
            m.soon = upTo(100);
            m.more = upTo(9);
            say("maybe " + m.maybe + " ; soon " + m.soon + " ; more " + m.more + " ;");
            statements += 3;
        }
        return statements;
    }

    private int tellPairs(String word, boolean[][] table, int n) {
        int told = 0;
        for (int k = 0; k < n && m.guests > 1; k++) {
            int a = upTo(m.guests - 1);
            int b = upTo(m.guests - 1);
            if (a != b && !table[a][b]) {
                table[a][b] = true;
                say(word + " " + name(a) + " " + name(b) + " ;");
                told++;
            }
        }
        return told;
    }

    // ---- sums and tests: told and meant at once

    private Model.Term sum(int open, String[] words, boolean question) {
        Model.Term left = product(open, words, question);
        for (int k = upTo(3) - 1; k > 0; k--) {
            boolean plus = random.nextBoolean();
            say(plus ? "+" : "-");
            Model.Term a = left;
            Model.Term b = product(open, words, question);
            left = (m, s, g) -> Model.clamp(a.of(m, s, g) + (plus ? b.of(m, s, g) : -b.of(m, s, g)));
        }
        return left;
    }

    private Model.Term product(int open, String[] words, boolean question) {
        Model.Term left = part(open, words, question);
        for (int k = upTo(3) - 1; k > 0; k--) {
            boolean times = random.nextBoolean();
            say(times ? "*" : "/");
            Model.Term a = left;
            Model.Term b = part(open, words, question);
            left = (m, s, g) -> {
                long u = a.of(m, s, g);
                long v = b.of(m, s, g);
                return times ? Model.clamp(u * v) : v == 0 ? 0 : Math.floorDiv(u, v);
            };
        }
        return left;
    }

    private Model.Term part(int open, String[] words, boolean question) {
        int sort = upTo(open >= 6 ? 5 : question ? 9 : 8);
        if (sort <= 1) {
            int n = upTo(random.nextInt(3) == 0 ? 9999 : 12);
            say(n + "");
            return (m, s, g) -> n;
        }
        if (sort <= 5) {
            String word = words[upTo(words.length - 1)];
            say(word);
            return (m, s, g) -> fact(word, m, s, g);
        }
        if (sort == 9) {
            say("pulls");
            Model.Term who = part(open + 1, words, question);
            return (m, s, g) -> {
                long v = who.of(m, s, g);
                return v >= 0 && v < m.guests && Model.in(m.far((int) v), g) ? 1 : 0;
            };
        }
        if (sort == 6) {
            say("(");
            Model.Term in = sum(open + 1, words, question);
            say(")");
            return in;
        }
        boolean least = sort == 7;
        say(least ? "min (" : "max (");
        Model.Term a = sum(open + 1, words, question);
        say(",");
        Model.Term b = sum(open + 1, words, question);
        say(")");
        return (m, s, g) -> least ? Math.min(a.of(m, s, g), b.of(m, s, g)) : Math.max(a.of(m, s, g), b.of(m, s, g));
    }

    private static long fact(String word, Model m, Model.State s, int g) {
        switch (word) {
            case "number": return g;
            case "how": return s.how[g];
            case "comes": return s.how[g] == 0 ? m.comes[g] : m.tenths(s, g);
            case "joy": return m.joy[g];
            case "slight": return m.slight[g];
            case "size": return 1 + m.with[g];
            default: return s.how[g] == 0 ? 0 : s.cardWeek[g] - s.first();
        }
    }

    private Model.Term test(int open) {
        Model.Term left = both(open);
        for (int k = upTo(3) - 1; k > 0; k--) {
            say("or");
            Model.Term a = left;
            Model.Term b = both(open);
            left = (m, s, g) -> a.of(m, s, g) != 0 || b.of(m, s, g) != 0 ? 1 : 0;
        }
        return left;
    }

    private Model.Term both(int open) {
        Model.Term left = factTest(open);
        for (int k = upTo(3) - 1; k > 0; k--) {
            say("and");
            Model.Term a = left;
            Model.Term b = factTest(open);
            left = (m, s, g) -> a.of(m, s, g) != 0 && b.of(m, s, g) != 0 ? 1 : 0;
        }
        return left;
    }

    private Model.Term factTest(int open) {
        int sort = upTo(7);
        if (sort == 0) {
            say("all");
            return (m, s, g) -> 1;
        }
        if (sort == 1 && open < 6) {
            say("not");
            Model.Term in = factTest(open + 1);
            return (m, s, g) -> in.of(m, s, g) != 0 ? 0 : 1;
        }
        if (sort == 2 && open < 6) {
            say("[");
            Model.Term in = test(open + 1);
            say("]");
            return in;
        }
        Model.Term a = sum(open, ASK_WORDS, true);
        int sign = upTo(2);
        say("<>=".substring(sign, sign + 1));
        Model.Term b = sum(open, ASK_WORDS, true);
        return (m, s, g) -> {
            int c = Long.compare(a.of(m, s, g), b.of(m, s, g));
            return (sign == 0 ? c < 0 : sign == 1 ? c > 0 : c == 0) ? 1 : 0;
        };
    }

    private void askOne() {
        int kind = upTo(5);
        say(new String[] {"first", "last", "often", "total", "most", "least"}[kind]);
        Model.Term term = kind < 3 ? test(0) : sum(0, ASK_WORDS, true);
        String text = text();
        if (text.length() > 1600) {
            return;
        }
        long first = -1, last = -1, often = 0, total = 0, most = Long.MIN_VALUE, least = Long.MAX_VALUE;
        for (int g = 0; g < m.guests; g++) {
            long value = term.of(m, m.now, g);
            if (value != 0) {
                first = first < 0 ? g : first;
                last = g;
                often++;
            }
            total += value;
            most = Math.max(most, value);
            least = Math.min(least, value);
        }
        boolean none = m.guests == 0;
        long[] all = {first, last, often, total, none ? 0 : most, none ? 0 : least};
        calls += text.length() / 20 + 2;
        due("ask " + text, Check.ask(x, text), all[kind]);
        due("fault(0)", x.fault(0), 0);
        due("fault(1)", x.fault(1), -1);
    }

    // ---- runs

    /** Another wedding ahead, with much done in it: nothing of it may be left. */
    private void tellAnotherAhead() {
        StringBuilder text = new StringBuilder("seats 9 bench 9 plate 9 lack 9;");
        for (int g = 0; g < 8; g++) {
            text.append("guest x").append(name(g), 0, 1).append(" comes 5 joy 9 with 3 slight 9;");
        }
        text.append("late 9;maybe 1;soon 1;more 1;");
        for (int g = 0; g < 7; g++) {
            String next = name(g + 1).substring(0, 1);
            text.append("pulls x").append(name(g), 0, 1).append(" x").append(next).append(";hears x")
                    .append(next).append(" x").append(name(g), 0, 1).append(';');
        }
        due("wedding ahead", Check.tell(x, text.toString()), 27);
        x.weeks(9);
        x.send(128);
        x.weeks(2);
        x.send(127);
        x.answer(0, 4);
        x.safe(0);
        x.ring(0);
        x.best();
        calls += text.length() / 20 + 10;
        if (number % 4 == 1) {
            due("fault ahead", Check.tell(x, text + "guest"), -1);
            calls += text.length() / 20 + 4;
        }
    }

    private void run() {
        if (number % 2 == 1) {
            tellAnotherAhead();
        }
        int statements = tellWedding();
        String text = text();
        if (text.length() > 1600) {
            return;
        }
        calls += text.length() / 20 + 2;
        due("wedding " + text, Check.tell(x, text), statements);
        lookOnce();
        while (calls < 400) {
            act();
            look();
        }
    }

    private void lookOnce() {
        long[] safe = m.safe();
        for (int what = 0; what < 3; what++) {
            due("safe " + what, x.safe(what), safe[what]);
        }
        for (int g = 0; g < m.guests; g++) {
            due("far " + g, x.far(g), m.far(g));
            for (int k = 0; k < 6; k++) {
                due("letter " + g + " " + k, x.letter(g, k), k < g % 6 + 1 ? g + 1 : 0);
            }
        }
        for (int k = 0; k < 8; k++) {
            int who = upTo((1 << m.guests) - 1);
            int sat = k < 6 ? m.heads(who) : upTo(32);
            int joy = k < 6 ? m.joys(who) : upTo(30);
            due("seen " + sat + " " + joy, x.seen(sat, joy, k % 3), m.seen(sat, joy, k % 3));
        }
    }

    private void act() {
        int g = upTo(8);
        int n = random.nextInt(5) == 0 ? upTo(101) : 1 + upTo(4);
        switch (upTo(9)) {
            case 0: case 1: case 2: {
                int set = random.nextBoolean() ? upTo(300) : g < 8 ? m.far(g) : 0;
                due("send " + set, x.send(set), m.send(set));
                break;
            }
            case 3: case 4: case 5: {
                int how = 1 + upTo(4);
                due("answer " + g + " " + how, x.answer(g, how), m.answer(g, how));
                break;
            }
            case 6: due("weeks " + n, x.weeks(n), m.weeks(n)); break;
            case 7: due("chance " + n, x.chance(n), m.chance(n)); break;
            case 8: due("undo", x.undo(), m.undo()); break;
            default: askOne();
        }
    }

    private void look() {
        int n = upTo(upTo(32));
        int g = upTo(7);
        int set = upTo((1 << m.guests) - 1);
        switch (upTo(11)) {
            case 0: due("odds " + n, x.odds(n), m.odds(n, false)); break;
            case 1: due("above " + n, x.above(n), m.odds(n, true)); break;
            case 2: due("answers " + g, x.answers(g), m.answers(g)); break;
            case 3: due("mean", x.mean(), Model.floor(m.mean(m.now).movePointRight(2))); break;
            case 4: due("worth", x.worth(), m.worth(m.now)); break;
            case 5: due("would " + set, x.would(set), m.would(set)); break;
            case 6: due("offence", x.offence(), m.offence(m.now)); break;
            case 7: lookLong(n, g); break;
            case 8: due("order " + n, x.order(n), Model.floor(m.cost(m.now, n).movePointRight(2))); break;
            case 9: due("full", x.full(), m.full()); break;
            case 10: lookAll(); break;
            default: lookImage(); break;
        }
    }

    // The Model is slow here: seldom, and not for the largest parties each time.
    private void lookLong(int n, int g) {
        if (m.guests > 6 && random.nextInt(4) > 0) {
            return;
        }
        switch (upTo(4)) {
            case 0: due("best", x.best(), m.best(0)); break;
            case 1: due("leave " + g, x.leave(g), m.leave(g)); break;
            case 2: due("enough " + n % 12, x.enough(n % 12), m.enough(n % 12)); break;
            case 3: {
                int ring = m.ring();
                due("ring 0", x.ring(0), ring);
                due("ring 1", x.ring(1), ring < 0 ? -1 : Model.floor(m.ringCost(ring).movePointRight(2)));
                break;
            }
            default: {
                int least = m.plates(m.now);
                due("plates 0", x.plates(0), least);
                due("plates 1", x.plates(1), Model.floor(m.cost(m.now, least).movePointRight(2)));
            }
        }
    }

    private void lookAll() {
        for (int what = 0; what <= 11; what++) {
            due("has " + what, x.has(what), m.has(what));
        }
        int g = upTo(8);
        for (int what = 0; what <= 8; what++) {
            due("guest " + g + " " + what, x.guest(g, what), m.guest(g, what));
        }
    }

    private void lookImage() {
        byte[] image = m.image();
        due("image", x.image(), image.length);
        for (int k = 0; k <= image.length; k++) {
            due("octet " + k, x.octet(k), k < image.length ? image[k] & 255 : -1);
        }
        if (random.nextInt(3) == 0) {
            Check.put(x, image);
            due("on", x.on(), true);
            m.past.clear();
            calls += 4;
        }
    }
}

import java.lang.reflect.InvocationTargetException;
import java.lang.reflect.Method;
import java.util.ArrayList;
import java.util.Comparator;
import java.util.List;

/** What the tests of edges share: running each method that Says something, and short ways to tell a wedding. */
final class Edges {
    static final int NONE = -1;
    static final long NOTHING = -1000000000000000L;
    /** A wedding in which nothing costs, so that one clause at a time can be looked at. */
    static final String HEAD = "seats 4 bench 0 plate 0 lack 0;";

    /** Least, greatest, and next to them: what no index or amount can be. */
    static final int[] WILD = {Integer.MIN_VALUE, Integer.MIN_VALUE + 1, -1000000, -1, 1000000, Integer.MAX_VALUE - 1,
        Integer.MAX_VALUE};

    private Edges() {
    }

    static List<Method> testsOf(Class<?> tests) {
        List<Method> all = new ArrayList<>();
        for (Method method : tests.getDeclaredMethods()) {
            if (method.isAnnotationPresent(Says.class)) {
                all.add(method);
            }
        }
        all.sort(Comparator.comparing(Method::getName));
        return all;
    }

    static void run(Class<?> tests) {
        int count = 0;
        for (Method method : testsOf(tests)) {
            Check.begin(method.getName() + " (" + method.getAnnotation(Says.class).value() + "): ");
            count++;
            try {
                method.setAccessible(true);
                method.invoke(null);
            } catch (InvocationTargetException thrown) {
                Check.due("threw " + thrown.getCause(), 1, 0);
            } catch (IllegalAccessException closed) {
                Check.due("can't be run", 1, 0);
            }
        }
        Check.begin("");
        Check.finish(tests.getName() + ", " + count + " tests");
    }

    static void due(String what, long got, long want) {
        Check.due(what, got, want);
    }

    static void due(String what, boolean got, boolean want) {
        Check.due(what, got, want);
    }

    // ---- texts

    static String guest(String name, int comes, int joy, int with, int slight) {
        return "guest " + name + " comes " + comes + " joy " + joy + " with " + with + " slight " + slight + ";";
    }

    /** Of the names a, b, c .. */
    static String guests(int n, int comes, int joy, int with, int slight) {
        StringBuilder text = new StringBuilder();
        for (int k = 0; k < n; k++) {
            text.append(guest(name(k), comes, joy, with, slight));
        }
        return text.toString();
    }

    static String name(int k) {
        return String.valueOf((char) ('a' + k));
    }

    /** The first n of the pairs of unlike ones of eight. */
    static String pairs(String word, int n) {
        StringBuilder text = new StringBuilder();
        int told = 0;
        for (int a = 0; a < 8; a++) {
            for (int b = 0; b < 8; b++) {
                if (a != b && told < n) {
                    text.append(word).append(' ').append(name(a)).append(' ').append(name(b)).append(';');
                    told++;
                }
            }
        }
        return text.toString();
    }

    static AndGuest told(String text) {
        return Check.told(text);
    }

    /** A text without a FAULT. */
    static void good(String text, int statements) {
        AndGuest x = new AndGuest();
        due("wedding() of " + text, Check.tell(x, text), statements);
        due("fault(0) of " + text, x.fault(0), 0);
        due("fault(1) of " + text, x.fault(1), NONE);
        due("status(1) of " + text, x.status(1), 0);
    }

    static void bad(String text, int fault, int place) {
        AndGuest x = new AndGuest();
        due("wedding() of " + text, Check.tell(x, text), NONE);
        due("fault(0) of " + text, x.fault(0), fault);
        due("fault(1) of " + text, x.fault(1), place);
        due("status(1) of " + text, x.status(1), 1);
    }

    /** The place is counted from the head's end. */
    static void badBehind(String head, String rest, int fault, int offset) {
        bad(head + rest, fault, head.length() + offset);
    }

    /** Asked of this object; without a FAULT. */
    static void answers(AndGuest x, String question, long want) {
        due(question, Check.ask(x, question), want);
        due("fault(0) of " + question, x.fault(0), 0);
        due("fault(1) of " + question, x.fault(1), NONE);
    }

    static void badQuestion(String question, int fault, int place) {
        AndGuest x = told(HEAD + guests(2, 5, 1, 0, 1));
        due("ask() of " + question, Check.ask(x, question), NOTHING);
        due("fault(0) of " + question, x.fault(0), fault);
        due("fault(1) of " + question, x.fault(1), place);
        due("status(1) of " + question, x.status(1), 0);
    }

    /** Lets so many WEEKS go by, in lots of 99. */
    static void pass(AndGuest x, int weeks) {
        for (int left = weeks; left > 0; left -= 99) {
            due("weeks", x.weeks(Math.min(left, 99)), true);
        }
    }

    // ---- images

    /** The bytes, and the last one as it has to be. */
    static byte[] picture(int... bytes) {
        byte[] all = new byte[bytes.length + 1];
        int check = 67;
        for (int k = 0; k < bytes.length; k++) {
            all[k] = (byte) bytes[k];
            check = (3 * check + (bytes[k] & 255)) % 251;
        }
        all[bytes.length] = (byte) check;
        return all;
    }

    static boolean on(AndGuest x, byte[] picture) {
        Check.put(x, picture);
        return x.on();
    }

    // ---- the seed, as the document tells it

    static long next(long seed) {
        return (1103515245L * seed + 12345L) % (1L << 31);
    }

    static int drawOf(long next, int m) {
        return (int) (next / 64 % m);
    }
}

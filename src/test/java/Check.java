import java.nio.charset.StandardCharsets;

/** What the tests share: counting wrong answers, putting a text on the tape, telling a wedding. */
final class Check {
    private static int asked = 0;
    private static int wrong = 0;
    private static String running = "";

    private Check() {
    }

    static void due(String what, long got, long want) {
        asked++;
        if (got != want) {
            wrong++;
            if (wrong <= 40) {
                System.out.println(running + what + " answered " + got + ", due is " + want);
            }
        }
    }

    static void due(String what, boolean got, boolean want) {
        due(what, got ? 1 : 0, want ? 1 : 0);
    }

    /** Which test is running: told ahead of what is wrong. */
    static void begin(String test) {
        running = test;
    }

    static void finish(String name) {
        System.out.println(name + ": " + asked + " answers looked at, " + wrong + " wrong");
        System.exit(wrong == 0 ? 0 : 1);
    }

    /** Puts a text on the empty tape. */
    static void put(AndGuest x, String text) {
        put(x, text.getBytes(StandardCharsets.ISO_8859_1));
    }

    static void put(AndGuest x, byte[] bytes) {
        int[] five = new int[5];
        for (int from = 0; from < bytes.length; from += 20) {
            for (int k = 0; k < 5; k++) {
                five[k] = 0;
                for (int j = 0; j < 4; j++) {
                    int at = from + 4 * k + j;
                    five[k] = five[k] << 8 | (at < bytes.length ? bytes[at] & 255 : 32);
                }
            }
            x.feed(five[0], five[1], five[2], five[3], five[4]);
        }
        x.end(bytes.length);
    }

    static int tell(AndGuest x, String text) {
        put(x, text);
        return x.wedding();
    }

    static long ask(AndGuest x, String text) {
        put(x, text);
        return x.ask();
    }

    static AndGuest told(String text) {
        AndGuest x = new AndGuest();
        due("wedding() of " + text, tell(x, text) > 0, true);
        return x;
    }
}

import java.util.ArrayList;
import java.util.List;

/** FAULTS of weddings and questions: which, and where. */
public final class FaultTest {
    private static final String HEAD = "seats 1 bench 1 plate 1 lack 1;";
    private static final String TWO = HEAD + "guest a comes 1 joy 1 with 1 slight 1;"
            + "guest b comes 1 joy 1 with 1 slight 1;";

    public static void main(String[] args) {
        beginnings();
        numbers();
        names();
        kinds();
        statements();
        lateSums();
        questions();
        questionDepth();
        mutations();
        allStaysBehindAFault();
        Check.finish("FaultTest");
    }

    private static void wedding(String text, int fault, int place) {
        AndGuest x = new AndGuest();
        long got = Check.tell(x, text);
        Check.due("wedding " + text, got, fault == 0 ? text.chars().filter(c -> c == ';').count() : -1);
        Check.due("fault(0) of " + text, x.fault(0), fault);
        Check.due("fault(1) of " + text, x.fault(1), place);
        Check.due("status(1) of " + text, x.status(1), fault == 0 ? 0 : 1);
    }

    private static void good(String text) {
        wedding(text, 0, -1);
    }

    private static void behind(String head, String rest, int fault, int offset) {
        wedding(head + rest, fault, fault == 0 ? -1 : head.length() + offset);
    }

    private static void beginnings() {
        wedding("", 1, 0);
        wedding("   ", 1, 3);
        wedding("\n \n", 1, 3);
        wedding(";", 1, 0);
        wedding("seat 1", 1, 0);
        wedding("seatss 1", 1, 0);
        wedding(" Seats 1", 1, 1);
        wedding("\tseats 1", 1, 0);
        wedding((char) 255 + "seats 1", 1, 0);
        wedding("seats", 1, 5);
        wedding("seats  ", 1, 7);
        wedding("seats;", 1, 5);
        wedding("seats1 bench", 1, 5);
        wedding("seats 1bench 1", 1, 7);
        wedding("seats 1 bench 1 plate 1 lack 1", 1, 30);
        wedding("seats 1 bench 1 plate 1 lack 1 \n ", 1, 33);
        wedding("seats 1 bench 1 plate 1 lack 1 1;", 1, 31);
        wedding("guest a comes 1", 1, 0);
        good(HEAD);
        good(" \n" + HEAD + " \n");
        good("\nseats\n1 bench 1 plate 1 lack 1 ; \n");
        good("seats 40 bench 99 plate 99 lack 99;");
        good("seats 0 bench 0 plate 0 lack 0;");
        good("seats 0040 bench 0099 plate 0000 lack 0001;");
    }

    private static void numbers() {
        wedding("seats 41", 2, 6);
        wedding("seats 9999", 2, 6);
        wedding("seats 12345", 1, 10);
        wedding("seats 00000", 1, 10);
        wedding("seats 123456789012345", 1, 10);
        wedding("seats 1 bench 100", 2, 14);
        wedding("seats 1 bench 1 plate 100", 2, 22);
        wedding("seats 1 bench 1 plate 1 lack 100", 2, 29);
        wedding("seats -1", 1, 6);
        behind(HEAD, "guest g comes 11", 2, 14);
        behind(HEAD, "guest g comes 1 joy 100", 2, 20);
        behind(HEAD, "guest g comes 1 joy 1 with 4", 2, 27);
        behind(HEAD, "guest g comes 1 joy 1 with 1 slight 100", 2, 36);
        behind(HEAD, "guest g comes 10 joy 99 with 3 slight 99;", 0, 0);
        behind(HEAD, "maybe 11;", 2, 6);
        behind(HEAD, "maybe 10;maybe 0;", 0, 0);
        behind(HEAD, "soon 101;", 2, 5);
        behind(HEAD, "soon 100;soon 0;", 0, 0);
        behind(HEAD, "more 10;", 2, 5);
        behind(HEAD, "more 9;more 0;", 0, 0);
        behind(HEAD, "more 10000;", 1, 9);
        behind(HEAD, "more x;", 1, 5);
        for (String word : "maybe soon more late".split(" ")) {
            behind(HEAD, word + ";", 1, word.length());
        }
    }

    private static void names() {
        for (String own : ("seats bench plate lack guest comes joy with slight pulls hears late maybe soon more weeks "
                + "size number how or and not all min max").split(" ")) {
            behind(HEAD, "guest " + own + " comes 1 joy 1 with 1 slight 1;", 1, 6);
            behind(TWO, "pulls a " + own + ";", 1, 8);
        }
        for (String free : "first last often total most least seat maxs o a zzzzzz".split(" ")) {
            behind(HEAD, "guest " + free + " comes 1 joy 1 with 1 slight 1;", 0, 0);
        }
        behind(HEAD, "guest how", 1, 6);
        behind(HEAD, "guest max comes", 1, 6);
        behind(HEAD, "guest abcdefg", 1, 12);
        behind(HEAD, "guest numbers", 1, 12);
        behind(HEAD, "guest 1", 1, 6);
        behind(HEAD, "guest", 1, 5);
        behind(HEAD, "guest aB", 1, 7);
        behind(HEAD, "guest a1 comes", 1, 7);
        behind(HEAD, "guest abcdef comes 1 joy 1 with 1 slight 1;", 0, 0);
        behind(HEAD, "guest first comes 1 joy 1 with 1 slight 1;guest most comes 1 joy 1 with 1 slight 1;", 0, 0);
        behind(HEAD, "guest ho comes 1 joy 1 with 1 slight 1;", 0, 0);
        behind(TWO, "guest b comes", 3, 6);
        behind(HEAD, "pulls x", 3, 6);
        behind(HEAD, "pulls how x", 1, 6);
        behind(TWO, "pulls a c", 3, 8);
        behind(TWO, "pulls a abcdefg", 1, 14);
        behind(TWO, "pulls abcdefg a", 1, 12);
        behind(TWO, "pulls a a;", 3, 8);
        behind(TWO, "pulls a min;", 1, 8);
        behind(TWO, "pulls a b;pulls b a;hears a b;hears b a;", 0, 0);
        behind(TWO, "pulls a b;pulls a b;", 3, 18);
        behind(TWO, "hears a b;hears a b;", 3, 18);
        behind(TWO, "hears b b;", 3, 8);
        behind(TWO, "hears z b;", 3, 6);
        behind(TWO, "pulls a;", 1, 7);
        behind(TWO, "pulls a b b;", 1, 10);
        behind(HEAD, "pulls a b;guest a comes 1 joy 1 with 1 slight 1;", 3, 6);
    }

    private static String guests(int n) {
        StringBuilder text = new StringBuilder();
        for (int k = 0; k < n; k++) {
            text.append("guest ").append((char) ('a' + k)).append(" comes 1 joy 1 with 1 slight 1;");
        }
        return text.toString();
    }

    private static String pairs(String word, int n) {
        StringBuilder text = new StringBuilder();
        int k = 0;
        for (int a = 0; a < 8; a++) {
            for (int b = 0; b < 8; b++) {
                if (a != b && k < n) {
                    text.append(word).append((char) ('a' + a)).append(' ').append((char) ('a' + b)).append(';');
                    k++;
                }
            }
        }
        return text.toString();
    }

    private static void kinds() {
        behind(HEAD, "x;", 1, 0);
        behind(HEAD, "seats 1 bench 1 plate 1 lack 1;", 1, 0);
        behind(HEAD, "first;", 1, 0);
        behind(HEAD, ";", 1, 0);
        behind(HEAD, "late 1;maybe 1;late 2;", 5, 15);
        behind(HEAD, guests(8), 0, 0);
        behind(HEAD + guests(8), " guest", 5, 1);
        behind(HEAD + guests(8), "guests", 1, 0);
        behind(HEAD + guests(8), pairs("pulls ", 16), 0, 0);
        behind(HEAD + guests(8) + pairs("pulls ", 16), "pulls h g", 5, 0);
        behind(HEAD + guests(8), pairs("hears ", 24), 0, 0);
        behind(HEAD + guests(8) + pairs("hears ", 24), "hears ?", 5, 0);
    }

    private static void statements() {
        String sixty = HEAD + "more 1;".repeat(59);
        good(sixty);
        good(sixty + " \n");
        behind(sixty, "more 1;", 5, 0);
        behind(sixty, "  x", 5, 2);
        behind(sixty, "?", 5, 0);
        behind(sixty, ";", 5, 0);
        behind(sixty, "7", 5, 0);
        behind(sixty, "seats", 5, 0);
        wedding(HEAD + "more 1;".repeat(58) + "more 1", 1, HEAD.length() + 59 * 7 - 1);
    }

    private static void lateSums() {
        String late = HEAD + "late ";
        behind(late, "1;", 0, 0);
        behind(late, "weeks*2+slight/10-joy*size;", 0, 0);
        behind(late, "min(1,2)*max ( weeks , 3 );", 0, 0);
        behind(late, ";", 1, 0);
        behind(late, "-1;", 1, 0);
        behind(late, "1 1;", 1, 2);
        behind(late, "1weeks;", 1, 1);
        behind(late, "weeks1;", 1, 5);
        behind(late, "9999;", 0, 0);
        behind(late, "10000;", 1, 4);
        behind(late, "1+10000;", 1, 6);
        behind(late, "1+;", 1, 2);
        behind(late, "1*/2;", 1, 2);
        behind(late, "number;", 1, 0);
        behind(late, "how;", 1, 0);
        behind(late, "comes;", 1, 0);
        behind(late, "pulls 1;", 1, 0);
        behind(late, "xyz;", 1, 0);
        behind(late, "min;", 1, 3);
        behind(late, "max ;", 1, 4);
        behind(late, "min 1;", 1, 4);
        behind(late, "min(1;", 1, 5);
        behind(late, "min(1,2;", 1, 7);
        behind(late, "max(1,2,3);", 1, 7);
        behind(late, "();", 1, 1);
        behind(late, "(1;", 1, 2);
        behind(late, "1);", 1, 1);
        behind(late, "((((((1))))));", 0, 0);
        behind(late, "(((((((1)))))));", 4, 6);
        behind(late, "((((((min(1,1)))))));", 4, 9);
        behind(late, "min(1,min(1,min(1,min(1,min(1,min(1,2))))));", 0, 0);
        behind(late, "min(1,min(1,min(1,min(1,min(1,min(1,(2)))))));", 4, 36);
        behind(late, "((((((1(", 1, 7);
        behind(late, "((1)+(1))*((1)+(1))*((1)+(1))*((1));", 0, 0);
        behind(late, "1<2;", 1, 1);
    }

    private static void question(String text, int fault, int place) {
        AndGuest x = Check.told(TWO);
        long got = Check.ask(x, text);
        Check.due("ask " + text, got == AndGuest.NOTHING, fault != 0);
        Check.due("fault(0) of " + text, x.fault(0), fault);
        Check.due("fault(1) of " + text, x.fault(1), place);
        Check.due("status(1) of " + text, x.status(1), 0);
        Check.due("tape behind " + text, x.end(1), false);
    }

    private static void questions() {
        question("", 1, 0);
        question("  ", 1, 2);
        question("x 1", 1, 0);
        question("first", 1, 5);
        question("first all", 0, -1);
        question(" first\nall ", 0, -1);
        question("firstall", 1, 0);
        question("first all x", 1, 10);
        question("first all;", 1, 9);
        question("first all1", 1, 9);
        question("first xyz", 1, 6);
        question("first 1", 1, 7);
        question("first 1<", 1, 8);
        question("first 1<2<3", 1, 9);
        question("first 1<2and all", 1, 9);
        question("first 1<2 and all or not all", 0, -1);
        question("first[all]and[all]", 0, -1);
        question("first [all", 1, 10);
        question("first [all)", 1, 10);
        question("first []", 1, 7);
        question("first [1]", 1, 8);
        question("first [all]>1", 1, 11);
        question("first (all)", 1, 7);
        question("first (1<2)", 1, 8);
        question("first all and", 1, 13);
        question("first all not", 1, 10);
        question("first 1 < not", 1, 10);
        question("first ann", 1, 6);
        question("total all", 1, 6);
        question("total 12345", 1, 10);
        question("total 1 2", 1, 8);
        question("total 1<2", 1, 7);
        question("most seats", 1, 5);
        question("most number+how*comes/joy-slight+size*weeks", 0, -1);
        question("least pulls", 1, 11);
        question("least pulls number", 0, -1);
        question("least pulls0", 1, 11);
        question("least pulls (0)*2", 0, -1);
        question("least pulls -1", 1, 12);
        question("least min(1,2)+max(number,3)", 0, -1);
        question("least min[1,2]", 1, 9);
        question("often joy=1 or", 1, 14);
        question("often all or or", 1, 13);
        question("most", 1, 4);
        question("all", 1, 0);
        question("7", 1, 0);
    }

    private static void questionDepth() {
        question("first " + "not ".repeat(6) + "all", 0, -1);
        question("first " + "not ".repeat(7) + "all", 4, 30);
        question("first " + "[".repeat(6) + "all" + "]".repeat(6), 0, -1);
        question("first " + "[".repeat(7) + "all" + "]".repeat(7), 4, 12);
        question("total " + "pulls ".repeat(6) + "1", 0, -1);
        question("total " + "pulls ".repeat(7) + "1", 4, 42);
        question("total " + "(".repeat(6) + "1" + ")".repeat(6), 0, -1);
        question("total " + "(".repeat(7) + "1", 4, 12);
        question("first not [ not ( pulls ( 1 ) ) = 1 ]", 0, -1);
        question("first not [ not ( pulls ( pulls 1 ) ) = 1 ]", 4, 0 + "first not [ not ( pulls ( ".length());
        question("first not [ not ( pulls ( min(1,2) ) ) = 1 ]", 4, "first not [ not ( pulls ( min".length());
        question("first not [ not ( pulls ( 1 ) ) = pulls pulls pulls 1 ]", 0, -1);
        question("first not [ not ( pulls ( 1 ) ) = pulls pulls pulls pulls 1 ]", 4,
                "first not [ not ( pulls ( 1 ) ) = pulls pulls pulls ".length());
        question("first not not not 1=1 and not not not not not not all", 0, -1);
        question("total pulls 1 + pulls pulls pulls pulls pulls pulls 2", 0, -1);
        question("first [[[[[[all]]]]]] and [[[[[[1<2]]]]]]", 0, -1);
        question("first [[[[[[not all]]]]]]", 4, 12);
        question("first [[[[[[pulls 1=1]]]]]]", 4, 12);
        question("first [[[[[[1 not", 1, 14);
    }

    private static final String[] TOKENS = ("seats 4 bench 20 plate 10 lack 30 ; "
            + "guest @ann comes 8 joy 30 with 1 slight 20 ; guest @bob comes 5 joy 40 with 0 slight 50 ; "
            + "pulls %ann %bob ; hears %bob %ann ; late weeks * 2 + ( slight - #7 ) / min ( joy , size ) ; "
            + "maybe 5 ; soon 60 ; more 2 ;").split(" ");

    /** Every token of a right wedding spoilt in each way that it can be; signs tell what it is. */
    private static void mutations() {
        for (int k = 0; k < TOKENS.length; k++) {
            StringBuilder text = new StringBuilder();
            for (int j = 0; j < k; j++) {
                text.append(bare(TOKENS[j])).append(j % 3 == 0 ? "\n " : " ");
            }
            String head = text.toString();
            boolean between = k > 0 && TOKENS[k - 1].equals(";");
            if (!between) {
                wedding(head, 1, head.length());
            }
            for (String with : spoilt(TOKENS[k])) {
                String[] parts = with.split("\\|");
                wedding(head + parts[0], Integer.parseInt(parts[1]), head.length() + Integer.parseInt(parts[2]));
            }
        }
    }

    private static String bare(String token) {
        return token.replaceAll("[@%#]", "");
    }

    private static List<String> spoilt(String token) {
        List<String> all = new ArrayList<>();
        all.add("?|1|0");
        all.add("A|1|0");
        if (token.startsWith("@") || token.startsWith("%")) {
            all.add("or|1|0");
            all.add("12|1|0");
            all.add("abcdefghi|1|6");
            all.add((token.startsWith("%") ? "zz" : "or") + (token.startsWith("%") ? "|3|0" : "|1|0"));
        } else if (token.startsWith("#")) {
            all.add("12345|1|4");
            all.add("ann|1|0");
        } else if (Character.isDigit(token.charAt(0)) && !token.equals("2")) {
            all.add("00001|1|4");
            all.add("9999|2|0");
            all.add("ann|1|0");
        } else if (Character.isLetter(token.charAt(0))) {
            all.add("ann|1|0");
            all.add(token + "s|1|0");
            all.add("or|1|0");
        }
        return all;
    }

    private static void allStaysBehindAFault() {
        AndGuest x = Check.told(TWO + "pulls a b;");
        Check.due("send", x.send(3), 2);
        Check.due("weeks", x.weeks(3), true);
        Check.due("refused wedding", Check.tell(x, HEAD + "guest c comes 1 joy 9 with 1 slight 1;x"), -1);
        Check.due("has(0)", x.has(0), 2);
        Check.due("has(1)", x.has(1), 1);
        Check.due("has(3)", x.has(3), 3);
        Check.due("has(5)", x.has(5), 2);
        Check.due("has(10)", x.has(10), 2);
        Check.due("guest(0, 1)", x.guest(0, 1), 1);
        Check.due("letter(0, 0)", x.letter(0, 0), 1);
        Check.due("far(0)", x.far(0), 3);
        Check.due("fault(0)", x.fault(0), 1);
    }
}

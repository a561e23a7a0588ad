/** Promises 1 to 36: each edge that a sentence names, too small, too large, empty, full, refused. */
public final class PromiseEdgeTest {
    private static final int NONE = Edges.NONE;
    private static final long NOTHING = Edges.NOTHING;
    private static final String HEAD = Edges.HEAD;
    private static final String TWO = HEAD + Edges.guests(2, 5, 7, 1, 4);
    private static final String EIGHT = "seats 4 bench 3 plate 5 lack 7;" + Edges.guests(8, 5, 9, 3, 2);
    private static final int BLANKS = 0x20202020;

    public static void main(String[] args) {
        Edges.run(PromiseEdgeTest.class);
    }

    private static void due(String what, long got, long want) {
        Edges.due(what, got, want);
    }

    private static void due(String what, boolean got, boolean want) {
        Edges.due(what, got, want);
    }

    private static AndGuest sent(String text, int set) {
        AndGuest x = Edges.told(text);
        due("send", x.send(set), Integer.bitCount(set));
        return x;
    }

    private static int blanks(AndGuest x) {
        return x.feed(BLANKS, BLANKS, BLANKS, BLANKS, BLANKS);
    }

    private static void refusals(AndGuest x, int... want) {
        for (int what = 0; what < want.length; what++) {
            due("status(" + what + ")", x.status(what), want[what]);
        }
    }

    // ---- 1: a new object

    @Says("face: NONE = -1")
    static void theConstants() {
        due("NONE", AndGuest.NONE, -1);
        due("NOTHING", AndGuest.NOTHING, -1000000000000000L);
    }

    @Says("1: No wedding, no GUESTS.")
    static void aNewObjectHasNothing() {
        AndGuest x = new AndGuest();
        for (int what = 0; what <= 10; what++) {
            due("has(" + what + ")", x.has(what), 0);
        }
        refusals(x, 0, 0, 0, 0, 0, 0);
        due("fault(0)", x.fault(0), 0);
        due("fault(1)", x.fault(1), NONE);
        due("octet(0)", x.octet(0), NONE);
        due("the tape is empty", x.end(1), false);
    }

    @Says("1: No wedding, no GUESTS.")
    static void aNewObjectAnswersNone() {
        AndGuest x = new AndGuest();
        due("letter", x.letter(0, 0), NONE);
        due("guest", x.guest(0, 0), NONE);
        due("far", x.far(0), NONE);
        due("odds", x.odds(0), NONE);
        due("above", x.above(0), NONE);
        due("answers", x.answers(0), NONE);
        due("mean", x.mean(), NONE);
        due("worth", x.worth(), NOTHING);
        due("would", x.would(0), NOTHING);
        due("offence", x.offence(), NONE);
        due("best", x.best(), NONE);
        due("leave", x.leave(0), NONE);
        due("enough", x.enough(0), NONE);
        due("order", x.order(0), NONE);
        due("full", x.full(), NONE);
        for (int what = 0; what < 3; what++) {
            due("safe", x.safe(what), NONE);
            due("plates", x.plates(what), NONE);
            due("ring", x.ring(what), NONE);
            due("seen", x.seen(0, 0, what), NONE);
        }
    }

    @Says("1: No wedding, no GUESTS.")
    static void twoObjectsShareNothing() {
        AndGuest x = sent(TWO, 3);
        AndGuest y = new AndGuest();
        due("weeks", x.weeks(5), true);
        due("image", x.image(), 11);
        due("no GUESTS", y.has(0), 0);
        due("no image", y.octet(0), NONE);
        due("wedding", Check.tell(y, HEAD), 1);
        due("GUESTS stay", x.has(0), 2);
        due("WEEK stays", x.has(3), 5);
        due("WEEK", y.has(3), 0);
    }

    // ---- 2: feed

    @Says("2: Twenty bytes come behind those on the tape, of each number the highest first: how many there are")
    static void howManyBytesThereAre() {
        AndGuest x = new AndGuest();
        for (int k = 1; k <= 80; k++) {
            due("feed", x.feed(k, -k, 0, Integer.MIN_VALUE, Integer.MAX_VALUE), 20 * k);
        }
        refusals(x, 0, 0, 0, 0, 0, 0);
    }

    @Says("2: of each number the highest first")
    static void theHighestByteFirst() {
        AndGuest x = new AndGuest();
        // "seat" "s 0 " "benc" "h 0 " "plat", "e 0 " "lack" " 0; "
        due("feed", x.feed(0x73656174, 0x73203020, 0x62656e63, 0x68203020, 0x706c6174), 20);
        due("feed", x.feed(0x65203020, 0x6c61636b, 0x20303b20, BLANKS, BLANKS), 40);
        due("wedding", x.wedding(), 1);
    }

    @Says("2: of each number the highest first")
    static void bytesOf128AndMore() {
        AndGuest x = Edges.told(HEAD);
        due("feed", x.feed(0x0000ffff, 0xac000000, -1, -1, -1), 20);
        due("end", x.end(5), true);
        due("on", x.on(), true);
        due("feed", x.feed(-1, -1, -1, -1, -1), 20);
        due("ask", x.ask(), NOTHING);
        due("fault(1)", x.fault(1), 0);
    }

    @Says("2: NONE, refused (0), if there would be more than 1600.")
    static void noMoreThan1600() {
        AndGuest x = new AndGuest();
        for (int k = 0; k < 80; k++) {
            blanks(x);
        }
        due("1620", blanks(x), NONE);
        refusals(x, 1);
        due("still 1600", x.end(1600), true);
        due("end(1581)", x.end(1581), true);
        due("1601", blanks(x), NONE);
        due("still 1581", x.end(1581), true);
        due("end(1580)", x.end(1580), true);
        due("1600", blanks(x), 1600);
        refusals(x, 2);
    }

    @Says("2: NONE, refused (0), if there would be more than 1600.")
    static void aRefusedFeedLeavesTheTape() {
        AndGuest x = new AndGuest();
        Check.put(x, HEAD + " ".repeat(1600 - HEAD.length()));
        due("feed", x.feed(-1, -1, -1, -1, -1), NONE);
        due("wedding", x.wedding(), 1);
        due("then there is room", blanks(x), 20);
    }

    @Says("2: Twenty bytes come behind those on the tape")
    static void behindBytesThatWereCut() {
        AndGuest x = new AndGuest();
        due("feed", x.feed(0x73656174, 0x73203020, 0x3f3f3f3f, 0x3f3f3f3f, 0x3f3f3f3f), 20);
        due("end", x.end(8), true);
        due("feed", x.feed(0x62656e63, 0x68203020, 0x706c6174, 0x65203020, 0x6c61636b), 28);
        due("feed", x.feed(0x20303b3f, -1, -1, -1, -1), 48);
        due("end", x.end(31), true);
        due("wedding", x.wedding(), 1);
    }

    // ---- 3: end

    @Says("3: The tape has its first n bytes alone: true")
    static void allBytesOrNone() {
        AndGuest x = new AndGuest();
        due("none of none", x.end(0), true);
        blanks(x);
        due("all", x.end(20), true);
        due("still all", x.end(20), true);
        due("one less", x.end(19), true);
        due("none", x.end(0), true);
        due("none again", x.end(0), true);
        refusals(x, 0);
    }

    @Says("3: false, refused (0), if it has not so many, or n is below 0.")
    static void notSoMany() {
        AndGuest x = new AndGuest();
        due("one of none", x.end(1), false);
        blanks(x);
        due("21 of 20", x.end(21), false);
        due("19", x.end(19), true);
        due("20 of 19", x.end(20), false);
        due("1601", x.end(1601), false);
        due("most", x.end(Integer.MAX_VALUE), false);
        refusals(x, 5);
        due("19 are left", x.end(19), true);
    }

    @Says("3: or n is below 0.")
    static void below0() {
        AndGuest x = new AndGuest();
        due("-1 of none", x.end(-1), false);
        blanks(x);
        due("-1", x.end(-1), false);
        due("-20", x.end(-20), false);
        due("least", x.end(Integer.MIN_VALUE), false);
        refusals(x, 4);
        due("20 are left", x.end(20), true);
    }

    // ---- 4: wedding

    @Says("4: The tape (it goes, refused or not) is THE WEDDING: how many STATEMENTS")
    static void howManyStatements() {
        due("one", Check.tell(new AndGuest(), HEAD), 1);
        due("three", Check.tell(new AndGuest(), TWO), 3);
        due("sixty", Check.tell(new AndGuest(), HEAD + "more 0;".repeat(59)), 60);
    }

    @Says("4: (it goes, refused or not)")
    static void theTapeGoes() {
        AndGuest x = Edges.told(HEAD);
        due("the tape is empty", x.end(1), false);
        due("refused", Check.tell(x, HEAD + "?"), NONE);
        due("the tape is empty", x.end(1), false);
        due("feed", blanks(x), 20);
    }

    @Says("4: NONE, refused (1), with a FAULT (all else stays;")
    static void allElseStays() {
        AndGuest x = sent(TWO + "pulls a b;late 9;maybe 3;soon 7;", 2);
        due("weeks", x.weeks(4), true);
        due("send", x.send(1), 1);
        due("answer", x.answer(0, 4), true);
        due("image", x.image(), 11);
        String other = "seats 9 bench 9 plate 9 lack 9;guest z comes 9 joy 9 with 3 slight 9;"
                + "guest y comes 9 joy 9 with 3 slight 9;guest x comes 9 joy 9 with 3 slight 9;"
                + "pulls y z;pulls z y;hears z y;hears y z;late 1;maybe 9;soon 99;more 9;?";
        due("refused", Check.tell(x, other), NONE);
        due("fault(0)", x.fault(0), 1);
        refusals(x, 0, 1, 0, 0, 0, 0);
        int[] has = {2, 1, 4, 4, 2, 1, 0, 0, 1, 4, 4};
        for (int what = 0; what < has.length; what++) {
            due("has(" + what + ")", x.has(what), has[what]);
        }
        int[] guest = {5, 7, 2, 4, 4, 3, 9, 4};
        for (int what = 0; what < guest.length; what++) {
            due("guest(0, " + what + ")", x.guest(0, what), guest[what]);
        }
        due("letter", x.letter(1, 0), 2);
        due("far", x.far(0), 3);
        due("far", x.far(1), 2);
        due("soon", x.answers(1), 70000);
        due("image", x.octet(1), 4);
        due("undo", x.undo(), true);
    }

    @Says("4: one without a STATEMENT has FAULT 1 at its length)")
    static void withoutAStatement() {
        Edges.bad("", 1, 0);
        Edges.bad(" ", 1, 1);
        Edges.bad("\n \n \n", 1, 5);
        Edges.bad(" ".repeat(1600), 1, 1600);
    }

    @Says("4: Without one all is as at first, nothing can be undone; the seed stays.")
    static void allIsAsAtFirst() {
        AndGuest x = sent(TWO + "late 9;hears b a;", 1);
        due("weeks", x.weeks(4), true);
        due("offence", x.offence(), 4);
        due("wedding", Check.tell(x, TWO + "late 9;hears b a;"), 5);
        due("WEEK", x.has(3), 0);
        due("asked", x.has(4), 0);
        due("acts", x.has(10), 0);
        due("offence", x.offence(), 0);
        due("send", x.send(2), 1);
        due("it is the first", x.guest(1, 7), 0);
    }

    private static final String FULL = "seats 40 bench 9 plate 9 lack 9;" + Edges.guests(8, 5, 9, 3, 9)
            + Edges.pairs("pulls", 16) + Edges.pairs("hears", 24) + "late 99;maybe 1;soon 1;more 9;";

    @Says("4: Without one all is as at first")
    static void aFullWeddingIsToldAgainAndAgain() {
        AndGuest x = new AndGuest();
        for (int k = 0; k < 5; k++) {
            due("wedding", Check.tell(x, FULL), 53);
            due("fault", x.fault(0), 0);
            due("GUESTS", x.has(0), 8);
            due("PULLS", x.has(1), 16);
        }
    }

    @Says("4: Without one all is as at first")
    static void aFullWeddingIsToldBehindRefusedOnes() {
        AndGuest x = new AndGuest();
        for (int k = 0; k < 3; k++) {
            due("refused", Check.tell(x, FULL + "?"), NONE);
            due("at its end", x.fault(1), FULL.length());
        }
        due("wedding", Check.tell(x, FULL), 53);
        due("refused", Check.tell(x, FULL + "late 1;"), NONE);
        due("one too many", x.fault(0), 5);
        due("wedding", Check.tell(x, FULL), 53);
    }

    /** Each pulls the next, so that each FAR set has all. */
    private static final String ROUND = "seats 40 bench 9 plate 9 lack 9;" + Edges.guests(8, 5, 9, 3, 9)
            + "pulls a b;pulls b c;pulls c d;pulls d e;pulls e f;pulls f g;pulls g h;pulls h a;"
            + Edges.pairs("hears", 24) + "late 99;maybe 1;soon 1;more 9;";

    @Says("4: Without one all is as at first")
    static void nothingOfFullWeddingsIsLeft() {
        AndGuest x = new AndGuest();
        for (int k = 0; k < 2; k++) {
            due("wedding", Check.tell(x, ROUND), 45);
            due("far", x.far(7), 255);
            due("send", x.send(255), 8);
        }
        for (int k = 0; k < 2; k++) {
            due("wedding", Check.tell(x, HEAD + Edges.guests(3, 5, 7, 1, 4)), 4);
            due("GUESTS", x.has(0), 3);
            due("PULLS", x.has(1), 0);
            for (int g = 0; g < 3; g++) {
                due("far", x.far(g), 1 << g);
                due("would", x.would(1 << g), 350);
            }
            due("far(3)", x.far(3), NONE);
            for (int n = 3; n < 8; n++) {
                Edges.answers(x, "total pulls " + n, 0);
            }
            due("best", x.best(), 7);
            due("send", x.send(4), 1);
            due("none hears", x.offence(), 0);
            due("weeks", x.weeks(1), true);
            due("send", x.send(1), 1);
            due("none is late", x.offence(), 0);
            due("undo", x.undo(), true);
            due("soon", x.answers(1), 500000);
            due("answer", x.answer(2, 4), true);
            due("maybe", x.guest(2, 5), 5);
            due("answer", x.answer(2, 2), true);
            due("more", x.full(), 583333);
            due("image", x.image(), 14);
            due("on", x.on(), false);
        }
    }

    @Says("4: Without one all is as at first")
    static void nothingOfEarlierCardsIsLeft() {
        AndGuest x = Edges.told(TWO + "late 9;");
        due("weeks", x.weeks(3), true);
        due("send", x.send(1), 1);
        due("weeks", x.weeks(2), true);
        due("send", x.send(2), 1);
        due("wedding", Check.tell(x, TWO + "late 9;"), 4);
        due("image", x.image(), 11);
        for (int k = 0; k < 10; k++) {
            due("octet " + k, x.octet(k), k == 2 || k == 3 ? 255 : 0);
        }
        Edges.answers(x, "total weeks", 0);
        due("weeks", x.weeks(4), true);
        due("would", x.would(3), 700);
        due("send", x.send(3), 2);
        due("offence", x.offence(), 0);
        due("the first", x.guest(1, 7), 0);
        due("image", x.image(), 11);
        due("WEEK of the first", x.octet(3), 4);
    }

    @Says("4: nothing can be undone")
    static void nothingCanBeUndone() {
        AndGuest x = sent(TWO, 1);
        due("wedding", Check.tell(x, TWO), 3);
        due("undo", x.undo(), false);
        due("asked", x.has(4), 0);
    }

    @Says("4: the seed stays.")
    static void theSeedStays() {
        // By the seed 0: 92, 1; then 71, 0.
        AndGuest x = sent(TWO + "soon 100;", 1);
        due("seed", x.seed(0), true);
        due("chance", x.chance(1), 1);
        due("wedding", Check.tell(x, TWO + "soon 71;"), 4);
        due("send", x.send(1), 1);
        due("71 is not below 71", x.chance(1), 0);
        AndGuest y = Edges.told(HEAD);
        due("seed", y.seed(0), true);
        due("refused", Check.tell(y, "?"), NONE);
        due("wedding", Check.tell(y, TWO + "soon 93;"), 4);
        due("send", y.send(1), 1);
        due("92 is below 93", y.chance(1), 1);
    }

    @Says("4: all else stays")
    static void withoutAWeddingARefusedOneIsNone() {
        AndGuest x = new AndGuest();
        due("refused", Check.tell(x, TWO + "?"), NONE);
        due("GUESTS", x.has(0), 0);
        due("seats", x.has(2), 0);
        due("mean", x.mean(), NONE);
        due("letter", x.letter(0, 0), NONE);
    }

    // ---- 5: fault

    @Says("5: Of the latest wedding() or ask(): its FAULT (what 0; 0 without, and ahead of any), its place (1; NONE without).")
    static void faultsOfTheLatest() {
        AndGuest x = new AndGuest();
        due("ahead of any", x.fault(0), 0);
        due("ahead of any", x.fault(1), NONE);
        due("wedding", Check.tell(x, "seats 41"), NONE);
        due("fault", x.fault(0), 2);
        due("place", x.fault(1), 6);
        due("wedding", Check.tell(x, HEAD), 1);
        due("without", x.fault(0), 0);
        due("without", x.fault(1), NONE);
        due("ask", Check.ask(x, "total ?"), NOTHING);
        due("fault", x.fault(0), 1);
        due("place", x.fault(1), 6);
        due("ask", Check.ask(x, "total 1"), 0);
        due("without", x.fault(0), 0);
        due("without", x.fault(1), NONE);
    }

    @Says("5: its place (1; NONE without).")
    static void aPlaceOf0() {
        AndGuest x = new AndGuest();
        due("wedding", x.wedding(), NONE);
        due("place", x.fault(1), 0);
    }

    @Says("5: Of the latest wedding() or ask()")
    static void otherRefusalsAreNoFaults() {
        AndGuest x = new AndGuest();
        due("wedding", Check.tell(x, "seats 41"), NONE);
        due("end", x.end(1), false);
        due("send", x.send(1), NONE);
        due("on", x.on(), false);
        due("undo", x.undo(), false);
        due("ask without a wedding", Check.ask(x, "total 1"), NOTHING);
        due("fault", x.fault(0), 2);
        due("place", x.fault(1), 6);
    }

    @Says("5: NONE for another what.")
    static void faultOfAnotherWhat() {
        AndGuest x = new AndGuest();
        due("fault(2)", x.fault(2), NONE);
        due("fault(-1)", x.fault(-1), NONE);
        due("wedding", Check.tell(x, "seats 41"), NONE);
        due("fault(2)", x.fault(2), NONE);
        for (int what : Edges.WILD) {
            due("fault(" + what + ")", x.fault(what), NONE);
        }
    }

    // ---- 6: has

    @Says("6: How many there are: 0 GUESTS, 1 PULLS, 2 seats, 3 WEEK, 4 asked, 5 waiting, 6 coming, 7 not coming, 8 maybe,")
    static void hasOfAnEmptyWedding() {
        AndGuest x = Edges.told("seats 0 bench 0 plate 0 lack 0;");
        for (int what = 0; what <= 10; what++) {
            due("has(" + what + ")", x.has(what), 0);
        }
    }

    @Says("6: How many there are: 0 GUESTS, 1 PULLS, 2 seats, 3 WEEK, 4 asked, 5 waiting, 6 coming, 7 not coming, 8 maybe,")
    static void hasOfAFullWedding() {
        AndGuest x = Edges.told("seats 40 bench 0 plate 0 lack 0;" + Edges.guests(8, 0, 0, 3, 0) + Edges.pairs("pulls", 16)
                + Edges.pairs("hears", 24));
        Edges.pass(x, 999);
        due("send", x.send(255), 8);
        int[] has = {8, 16, 40, 999, 8, 8, 0, 0, 0, 32, 12};
        for (int what = 0; what < has.length; what++) {
            due("has(" + what + ")", x.has(what), has[what]);
        }
        for (int how = 2; how <= 4; how++) {
            for (int g = 0; g < 8; g++) {
                due("answer", x.answer(g, how), true);
            }
            due("asked", x.has(4), 8);
            due("waiting", x.has(5), 0);
            for (int other = 2; other <= 4; other++) {
                due("has(" + (4 + other) + ")", x.has(4 + other), other == how ? 8 : 0);
            }
            due("that can come", x.has(9), how == 3 ? 0 : 32);
        }
        due("acts", x.has(10), 20);
    }

    @Says("6: 9 that can come at most (by SIZE; of those asked who said not so that they do not)")
    static void whoCanComeAtMost() {
        AndGuest x = Edges.told(HEAD + Edges.guest("a", 0, 0, 0, 0) + Edges.guest("b", 10, 0, 1, 0)
                + Edges.guest("c", 5, 0, 2, 0) + Edges.guest("d", 5, 0, 3, 0) + "maybe 0;");
        due("none asked", x.has(9), 0);
        due("send", x.send(1), 1);
        due("who waits, though by none", x.has(9), 1);
        due("send", x.send(6), 2);
        due("who wait", x.has(9), 6);
        due("answer", x.answer(1, 4), true);
        due("who is maybe, though by none", x.has(9), 6);
        due("answer", x.answer(2, 2), true);
        due("who is coming", x.has(9), 6);
        due("answer", x.answer(2, 3), true);
        due("who is not", x.has(9), 3);
        due("answer", x.answer(2, 4), true);
        due("who is maybe now", x.has(9), 6);
    }

    @Says("6: NONE for others.")
    static void hasOfOthers() {
        AndGuest x = sent(TWO, 3);
        due("has(11)", x.has(11), NONE);
        due("has(-1)", x.has(-1), NONE);
        for (int what : Edges.WILD) {
            due("has(" + what + ")", x.has(what), NONE);
        }
    }

    // ---- 7: letter

    @Says("7: Letter k (0 .. 5) of the NAME of a GUEST: 1 .. 26; 0 behind it")
    static void lettersOfNamesOf1To6() {
        String name = "zamaz";
        for (int length = 1; length <= 6; length++) {
            String text = ("azbycx").substring(0, length);
            AndGuest x = Edges.told(HEAD + Edges.guest(name, 1, 1, 1, 1) + Edges.guest(text, 1, 1, 1, 1));
            for (int k = 0; k < 6; k++) {
                due("letter " + k + " of " + text, x.letter(1, k), k < length ? text.charAt(k) - 'a' + 1 : 0);
                due("letter " + k + " of " + name, x.letter(0, k), k < 5 ? name.charAt(k) - 'a' + 1 : 0);
            }
        }
    }

    @Says("7: NONE when there is none such.")
    static void noSuchLetter() {
        AndGuest x = Edges.told(TWO);
        due("letter(0, 6)", x.letter(0, 6), NONE);
        due("letter(0, -1)", x.letter(0, -1), NONE);
        due("letter(2, 0)", x.letter(2, 0), NONE);
        due("letter(-1, 0)", x.letter(-1, 0), NONE);
        AndGuest y = Edges.told(EIGHT);
        due("letter(7, 5)", y.letter(7, 5), 0);
        due("letter(8, 0)", y.letter(8, 0), NONE);
        for (int wild : Edges.WILD) {
            due("letter(" + wild + ", 0)", y.letter(wild, 0), NONE);
            due("letter(0, " + wild + ")", y.letter(0, wild), NONE);
        }
        due("no GUESTS", Edges.told(HEAD).letter(0, 0), NONE);
    }

    // ---- 8: guest

    @Says("8: 5 by how many of ten he COMES now (0 if not asked), 6 OFFENCE, 7 WEEKS behind the first card at which his went"
            + " (NONE if none did).")
    static void whoIsNotAsked() {
        AndGuest x = sent(TWO + "hears b a;", 1);
        int[] want = {5, 7, 2, 4, 0, 0, 4, NONE};
        for (int what = 0; what < want.length; what++) {
            due("guest(1, " + what + ")", x.guest(1, what), want[what]);
        }
    }

    @Says("8: Of a GUEST: 0 comes as told, 1 joy, 2 SIZE, 3 slight, 4 how (0 .. 4)")
    static void whatIsToldStays() {
        AndGuest x = sent(TWO + "maybe 0;", 3);
        for (int how = 2; how <= 4; how++) {
            due("answer", x.answer(0, how), true);
            int[] want = {5, 7, 2, 4, how, how == 2 ? 10 : 0, 0, 0};
            for (int what = 0; what < want.length; what++) {
                due("guest(0, " + what + ")", x.guest(0, what), want[what]);
            }
        }
    }

    @Says("8: 7 WEEKS behind the first card at which his went (NONE if none did).")
    static void weeksBehindTheFirstCard() {
        AndGuest x = Edges.told(HEAD + Edges.guests(3, 5, 1, 0, 0));
        Edges.pass(x, 100);
        due("none went", x.guest(0, 7), NONE);
        due("send", x.send(4), 1);
        due("the first", x.guest(2, 7), 0);
        due("others", x.guest(0, 7), NONE);
        Edges.pass(x, 899);
        due("send", x.send(1), 1);
        due("899 behind", x.guest(0, 7), 899);
        due("undo", x.undo(), true);
        due("none went", x.guest(0, 7), NONE);
    }

    @Says("8: NONE when there is none such, or for others.")
    static void noSuchGuest() {
        AndGuest x = Edges.told(TWO);
        due("guest(0, 8)", x.guest(0, 8), NONE);
        due("guest(0, -1)", x.guest(0, -1), NONE);
        AndGuest y = Edges.told(EIGHT);
        for (int what = 0; what <= 7; what++) {
            due("guest(2, " + what + ")", x.guest(2, what), NONE);
            due("guest(-1, " + what + ")", x.guest(-1, what), NONE);
            due("guest(8, " + what + ")", y.guest(8, what), NONE);
        }
        for (int wild : Edges.WILD) {
            due("guest(" + wild + ", 0)", y.guest(wild, 0), NONE);
            due("guest(0, " + wild + ")", y.guest(0, wild), NONE);
        }
    }

    // ---- 9: far

    @Says("9: The FAR set of a GUEST, as bits; NONE when there is none such.")
    static void noSuchFarSet() {
        AndGuest x = Edges.told(EIGHT);
        due("far(7)", x.far(7), 128);
        due("far(8)", x.far(8), NONE);
        due("far(-1)", x.far(-1), NONE);
        due("far(2) of two", Edges.told(TWO).far(2), NONE);
        due("far(0) of none", Edges.told(HEAD).far(0), NONE);
        for (int wild : Edges.WILD) {
            due("far(" + wild + ")", x.far(wild), NONE);
        }
    }

    // ---- 10, 11: odds, above

    @Says("10: ODDS that just so many come (0 .. 32), in millionths (floor)")
    static void oddsOfLeastAndMost() {
        AndGuest x = Edges.told("seats 0 bench 0 plate 0 lack 0;" + Edges.guests(8, 10, 0, 3, 0));
        due("none, with none asked", x.odds(0), 1000000);
        due("send", x.send(255), 8);
        due("none", x.odds(0), 0);
        due("31", x.odds(31), 0);
        due("32", x.odds(32), 1000000);
        due("no GUESTS", Edges.told(HEAD).odds(0), 1000000);
        due("no GUESTS", Edges.told(HEAD).odds(1), 0);
    }

    @Says("10: in millionths (floor)")
    static void oddsAreFloored() {
        AndGuest x = sent(HEAD + Edges.guests(8, 1, 0, 0, 0), 255);
        // 0.9^8 = 0.43046721, 8 * 0.1 * 0.9^7 = 0.38263752, 28 * 0.01 * 0.9^6 = 0.14880348, 0.03306744, 0.0045927, 0.00040824,
        int[] want = {430467, 382637, 148803, 33067, 4592, 408, 22, 0, 0};
        for (int n = 0; n < want.length; n++) {
            due("odds " + n, x.odds(n), want[n]);
        }
    }

    @Says("10: in millionths (floor)")
    static void oddsOfJustAMillionth() {
        AndGuest x = sent(HEAD + Edges.guests(6, 1, 0, 0, 0), 63);
        due("six", x.odds(6), 1);
        due("above five", x.above(5), 1);
        AndGuest y = sent(HEAD + Edges.guests(7, 1, 0, 0, 0), 127);
        due("seven", y.odds(7), 0);
        due("above six", y.above(6), 0);
    }

    @Says("10: NONE when n can't be, or without a wedding.")
    static void oddsOfWhatCanNotBe() {
        AndGuest x = sent(EIGHT, 255);
        due("odds(-1)", x.odds(-1), NONE);
        due("odds(33)", x.odds(33), NONE);
        for (int wild : Edges.WILD) {
            due("odds(" + wild + ")", x.odds(wild), NONE);
        }
        due("no wedding", new AndGuest().odds(0), NONE);
    }

    @Says("10: ODDS that just so many come (0 .. 32)")
    static void oddsOfMoreThanThereAreAre0() {
        AndGuest x = sent(HEAD + Edges.guest("a", 5, 0, 0, 0), 1);
        due("two", x.odds(2), 0);
        due("32", x.odds(32), 0);
        due("above one", x.above(1), 0);
    }

    @Says("11: ODDS that more come than so many (0 .. 32), in millionths (floor)")
    static void aboveLeastAndMost() {
        AndGuest x = sent("seats 0 bench 0 plate 0 lack 0;" + Edges.guests(8, 10, 0, 3, 0), 255);
        due("above 0", x.above(0), 1000000);
        due("above 31", x.above(31), 1000000);
        due("above 32", x.above(32), 0);
        due("no GUESTS", Edges.told(HEAD).above(0), 0);
    }

    @Says("11: ODDS that more come than so many (0 .. 32), in millionths (floor)")
    static void aboveIsNotJustSoMany() {
        AndGuest x = sent(HEAD + Edges.guest("a", 5, 0, 1, 0), 1);
        due("above 0", x.above(0), 500000);
        due("above 1", x.above(1), 500000);
        due("above 2", x.above(2), 0);
    }

    @Says("11: in millionths (floor)")
    static void aboveIsFlooredOnceForAll() {
        AndGuest x = sent(HEAD + Edges.guests(8, 1, 0, 0, 0), 255);
        // 1 - 0.43046721; 0.00000073 and 0.00000001 of seven and of eight, 0.00002268 of six.
        due("above 0", x.above(0), 569532);
        due("above 5", x.above(5), 23);
        due("above 6", x.above(6), 0);
    }

    @Says("11: in millionths (floor)")
    static void aboveAHundredMillionthBelow() {
        // 1 - 0.1^8
        due("0.99999999", sent(HEAD + Edges.guests(8, 9, 0, 0, 0), 255).above(0), 999999);
        due("0.00000199", sent(HEAD + Edges.guests(7, 1, 0, 0, 0) + Edges.guest("h", 3, 0, 0, 0), 255).above(6), 1);
    }

    @Says("11: NONE likewise.")
    static void aboveWhatCanNotBe() {
        AndGuest x = sent(EIGHT, 255);
        due("above(-1)", x.above(-1), NONE);
        due("above(33)", x.above(33), NONE);
        for (int wild : Edges.WILD) {
            due("above(" + wild + ")", x.above(wild), NONE);
        }
        due("no wedding", new AndGuest().above(0), NONE);
    }

    // ---- 12: answers

    @Says("12: ODDS that just so many (0 .. 8) of the GUESTS that wait answer in a WEEK by the seed")
    static void answersOfNoneAndOfEight() {
        AndGuest x = Edges.told(HEAD + Edges.guests(8, 1, 0, 0, 0) + "soon 10;");
        due("none wait, none answer", x.answers(0), 1000000);
        due("none wait, one answers", x.answers(1), 0);
        due("none wait, eight answer", x.answers(8), 0);
        due("send", x.send(255), 8);
        int[] want = {430467, 382637, 148803, 33067, 4592, 408, 22, 0, 0};
        for (int n = 0; n <= 8; n++) {
            due("answers " + n, x.answers(n), want[n]);
        }
        AndGuest y = sent(HEAD + Edges.guests(8, 1, 0, 0, 0) + "soon 100;", 255);
        AndGuest z = sent(HEAD + Edges.guests(8, 1, 0, 0, 0) + "soon 0;", 255);
        for (int n = 0; n <= 8; n++) {
            due("answers for sure " + n, y.answers(n), n == 8 ? 1000000 : 0);
            due("answers never " + n, z.answers(n), n == 0 ? 1000000 : 0);
        }
    }

    @Says("12: of the GUESTS that wait")
    static void whoWaitsNotCountsNot() {
        AndGuest x = sent(HEAD + Edges.guests(6, 1, 0, 0, 0), 31);
        due("answer", x.answer(0, 2), true);
        due("answer", x.answer(1, 3), true);
        due("answer", x.answer(2, 4), true);
        int[] want = {250000, 500000, 250000, 0, 0, 0, 0, 0, 0};
        for (int n = 0; n <= 8; n++) {
            due("answers " + n, x.answers(n), want[n]);
        }
    }

    @Says("12: in millionths (floor)")
    static void answersAreFloored() {
        int[] oneOfOne = {10000, 330000, 990000};
        int[] threeOfThree = {1, 35937, 970299};
        // 0.33^4 = 0.01185921, 0.99^4 = 0.96059601; 0.99^8 = 0.9227446944279201, 0.33^8 = 0.0001406408618241
        int[] fourOfFour = {0, 11859, 960596};
        int[] eightOfEight = {0, 140, 922744};
        int[] soon = {1, 33, 99};
        for (int k = 0; k < soon.length; k++) {
            AndGuest x = sent(HEAD + Edges.guests(8, 1, 0, 0, 0) + "soon " + soon[k] + ";", 1);
            due("one of one", x.answers(1), oneOfOne[k]);
            due("send", x.send(6), 2);
            due("three of three", x.answers(3), threeOfThree[k]);
            due("send", x.send(8), 1);
            due("four of four", x.answers(4), fourOfFour[k]);
            due("send", x.send(240), 4);
            due("eight of eight", x.answers(8), eightOfEight[k]);
        }
        AndGuest y = sent(HEAD + Edges.guests(8, 1, 0, 0, 0) + "soon 50;", 255);
        // 70 / 256
        due("four of eight", y.answers(4), 273437);
    }

    @Says("12: NONE when n can't be, or without a wedding.")
    static void answersOfWhatCanNotBe() {
        AndGuest x = sent(EIGHT, 255);
        due("answers(-1)", x.answers(-1), NONE);
        due("answers(9)", x.answers(9), NONE);
        for (int wild : Edges.WILD) {
            due("answers(" + wild + ")", x.answers(wild), NONE);
        }
        due("no wedding", new AndGuest().answers(0), NONE);
    }

    // ---- 13 to 16: mean, worth, would, offence

    @Says("13: How many come on the MEAN, in hundredths (floor); NONE without a wedding.")
    static void meanOfNoneAndOfAll() {
        AndGuest x = Edges.told("seats 0 bench 0 plate 0 lack 0;" + Edges.guests(8, 10, 0, 3, 0));
        due("none asked", x.mean(), 0);
        due("send", x.send(255), 8);
        due("all", x.mean(), 3200);
        due("a tenth of one", sent(HEAD + Edges.guest("a", 1, 0, 0, 0), 1).mean(), 10);
        due("no GUESTS", Edges.told(HEAD).mean(), 0);
        due("no wedding", new AndGuest().mean(), NONE);
    }

    @Says("14: WORTH as all is; NOTHING without a wedding.")
    static void worthOfNone() {
        due("no GUESTS", Edges.told(HEAD).worth(), 0);
        due("none asked", Edges.told(EIGHT).worth(), 0);
        due("no wedding", new AndGuest().worth(), NOTHING);
    }

    @Says("14: WORTH as all is")
    static void worthAsAllIs() {
        AndGuest x = sent("seats 0 bench 2 plate 9 lack 9;" + Edges.guests(2, 5, 7, 1, 4) + "hears b a;late 3;", 1);
        // 3.5 - 4 - 2 * 1
        due("a waits", x.worth(), -250);
        due("weeks", x.weeks(1), true);
        due("send", x.send(2), 1);
        // 3.5 + 3.5 - 3 - 2 * 2
        due("both wait", x.worth(), 0);
        due("answer", x.answer(1, 3), true);
        due("b comes not", x.worth(), 350 - 300 - 200);
    }

    @Says("15: WORTH, did cards go now to a SET of GUESTS (bits, also none)")
    static void wouldOfNoneIsWorth() {
        AndGuest x = sent(EIGHT, 5);
        due("would(0)", x.would(0), x.worth());
        due("not as at first", x.worth() != 0, true);
        due("no GUESTS", Edges.told(HEAD).would(0), 0);
    }

    @Says("15: WORTH, did cards go now to a SET of GUESTS (bits, also none)")
    static void wouldIsWorthBehindSend() {
        for (int set = 1; set < 256; set += 7) {
            AndGuest x = Edges.told(EIGHT + "hears a h;hears h a;late 2;");
            long would = x.would(set);
            due("nothing is done", x.has(4) + x.has(10), 0);
            due("send", x.send(set), Integer.bitCount(set));
            due("worth behind " + set, x.worth(), would);
        }
    }

    @Says("15: NOTHING when it is not WHOLE, one of it was asked, there are none such, or without a wedding.")
    static void wouldNot() {
        AndGuest x = sent(HEAD + Edges.guests(3, 5, 7, 1, 4) + "pulls b c;", 1);
        due("not WHOLE", x.would(2), NOTHING);
        due("WHOLE", x.would(6) != NOTHING, true);
        due("one was asked", x.would(1), NOTHING);
        due("one of them was asked", x.would(5), NOTHING);
        due("there is none such", x.would(8), NOTHING);
        due("one of them is none such", x.would(12), NOTHING);
        due("below 0", x.would(-1), NOTHING);
        due("below 0, but for its bits", x.would(Integer.MIN_VALUE + 4), NOTHING);
        for (int wild : Edges.WILD) {
            due("would(" + wild + ")", x.would(wild), NOTHING);
        }
        AndGuest y = Edges.told(EIGHT);
        due("all and more, below 0", y.would(-1), NOTHING);
        due("all and more", y.would(Integer.MAX_VALUE), NOTHING);
        due("all eight", y.would(255) != NOTHING, true);
        due("a ninth", y.would(256), NOTHING);
        due("a ninth too", y.would(257), NOTHING);
        due("no wedding", new AndGuest().would(0), NOTHING);
        due("no wedding", new AndGuest().would(1), NOTHING);
    }

    @Says("16: OFFENCE of all together; NONE without a wedding.")
    static void offenceOfNoneAndOfAll() {
        due("no GUESTS", Edges.told(HEAD).offence(), 0);
        due("no wedding", new AndGuest().offence(), NONE);
        AndGuest x = Edges.told(HEAD + Edges.guests(8, 5, 1, 0, 99) + "hears b a;hears c a;hears d a;hears e a;hears f a;"
                + "hears g a;hears h a;late 9999;");
        due("none asked", x.offence(), 0);
        due("send", x.send(1), 1);
        due("all others hear", x.offence(), 693);
        due("weeks", x.weeks(1), true);
        due("send", x.send(254), 7);
        due("all others are late", x.offence(), 6993);
    }

    // ---- 17 to 20: best, safe, leave, enough

    @Says("17: BEST to ask now, as bits; NONE without a wedding.")
    static void bestOfNone() {
        due("no GUESTS", Edges.told(HEAD).best(), 0);
        due("all asked", sent(TWO, 3).best(), 0);
        due("no wedding", new AndGuest().best(), NONE);
    }

    @Says("17: BEST to ask now, as bits; NONE without a wedding.")
    static void theEighthAlone() {
        due("best", Edges.told("seats 1 bench 99 plate 0 lack 0;" + Edges.guests(7, 10, 1, 0, 0)
                + Edges.guest("h", 10, 2, 0, 0)).best(), 128);
    }

    @Says("18: SAFE: the set as bits (what 0), OFFENCE (1), joy (2). NONE without a wedding, or for others.")
    static void safeOfOthers() {
        AndGuest x = Edges.told(TWO);
        due("safe(0)", x.safe(0), 3);
        due("safe(1)", x.safe(1), 0);
        due("safe(2)", x.safe(2), 14);
        due("safe(3)", x.safe(3), NONE);
        due("safe(-1)", x.safe(-1), NONE);
        for (int wild : Edges.WILD) {
            due("safe(" + wild + ")", x.safe(wild), NONE);
        }
        AndGuest y = Edges.told(HEAD);
        for (int what = 0; what < 3; what++) {
            due("no GUESTS", y.safe(what), 0);
            due("no wedding", new AndGuest().safe(what), NONE);
        }
    }

    @Says("19: LEFT OUT is a GUEST: by how much less, in hundredths; NONE when he is asked, or there is none such.")
    static void leaveWhoCanNotBeLeft() {
        AndGuest x = sent(EIGHT, 1);
        for (int how = 1; how <= 4; how++) {
            if (how > 1) {
                due("answer", x.answer(0, how), true);
            }
            due("who is asked", x.leave(0), NONE);
        }
        due("who is not", x.leave(7) != NONE, true);
        due("leave(8)", x.leave(8), NONE);
        due("leave(-1)", x.leave(-1), NONE);
        for (int wild : Edges.WILD) {
            due("leave(" + wild + ")", x.leave(wild), NONE);
        }
        due("leave(2) of two", Edges.told(TWO).leave(2), NONE);
        due("no GUESTS", Edges.told(HEAD).leave(0), NONE);
        due("no wedding", new AndGuest().leave(0), NONE);
    }

    @Says("19: LEFT OUT is a GUEST: by how much less, in hundredths")
    static void leaveDoesNothing() {
        AndGuest x = Edges.told(TWO);
        due("leave", x.leave(0), 350);
        due("asked", x.has(4), 0);
        due("acts", x.has(10), 0);
        due("best", x.best(), 3);
    }

    @Says("20: ENOUGH for so many (0 .. 32), as bits; NONE when there is none such, n can't be, or without a wedding.")
    static void enoughOfWhatCanNotBe() {
        AndGuest x = Edges.told("seats 0 bench 0 plate 0 lack 0;" + Edges.guests(8, 10, 0, 3, 0));
        due("enough(0)", x.enough(0), 0);
        due("enough(1)", x.enough(1), 1);
        due("enough(4)", x.enough(4), 1);
        due("enough(5)", x.enough(5), 3);
        due("enough(32)", x.enough(32), 255);
        due("enough(33)", x.enough(33), NONE);
        due("enough(-1)", x.enough(-1), NONE);
        for (int wild : Edges.WILD) {
            due("enough(" + wild + ")", x.enough(wild), NONE);
        }
        due("none such", Edges.told(TWO).enough(3), NONE);
        due("no GUESTS", Edges.told(HEAD).enough(1), NONE);
        due("no wedding", new AndGuest().enough(0), NONE);
    }

    // ---- 21 to 24: order, plates, ring, full

    @Says("21: What a PLATE ORDER of n (0 .. 32) costs, in hundredths (floor); NONE when n can't be, or without a wedding.")
    static void orderOfWhatCanNotBe() {
        AndGuest x = sent(EIGHT, 255);
        due("order(0)", x.order(0), 7 * 1600);
        due("order(32)", x.order(32), 5 * 3200);
        due("order(33)", x.order(33), NONE);
        due("order(-1)", x.order(-1), NONE);
        for (int wild : Edges.WILD) {
            due("order(" + wild + ")", x.order(wild), NONE);
        }
        due("no GUESTS", Edges.told(HEAD).order(32), 0);
        due("no wedding", new AndGuest().order(0), NONE);
    }

    @Says("21: in hundredths (floor)")
    static void orderIsFloored() {
        AndGuest x = sent("seats 0 bench 0 plate 1 lack 1;" + Edges.guests(3, 1, 0, 0, 0), 7);
        // Beyond one 0.029, beyond two 0.001.
        due("order(0)", x.order(0), 30);
        due("order(1)", x.order(1), 102);
        due("order(2)", x.order(2), 200);
        due("order(3)", x.order(3), 300);
    }

    @Says("22: The best PLATE ORDER: how many (what 0), what it costs in hundredths, floor (1). NONE without a wedding, or for"
            + " others.")
    static void platesOfOthers() {
        AndGuest x = sent(EIGHT, 255);
        due("plates(0)", x.plates(0) >= 0, true);
        due("plates(1)", x.plates(1), x.order(x.plates(0)));
        due("plates(2)", x.plates(2), NONE);
        due("plates(-1)", x.plates(-1), NONE);
        for (int wild : Edges.WILD) {
            due("plates(" + wild + ")", x.plates(wild), NONE);
        }
        due("no GUESTS", Edges.told(HEAD).plates(0), 0);
        due("no GUESTS", Edges.told(HEAD).plates(1), 0);
        due("no wedding", new AndGuest().plates(0), NONE);
        due("no wedding", new AndGuest().plates(1), NONE);
    }

    @Says("22: what it costs in hundredths, floor (1).")
    static void whatPlatesCostIsFloored() {
        AndGuest x = sent("seats 0 bench 0 plate 1 lack 30;" + Edges.guests(3, 1, 0, 0, 0), 7);
        // None 9, one 1.87, two 2.03.
        due("plates(0)", x.plates(0), 1);
        due("plates(1)", x.plates(1), 187);
        AndGuest y = sent("seats 0 bench 0 plate 1 lack 13;" + Edges.guests(3, 1, 0, 0, 0), 7);
        // One costs 1 + 13 * 0.029 = 1.377.
        due("plates(0)", y.plates(0), 1);
        due("plates(1)", y.plates(1), 137);
    }

    @Says("23: To RING: the GUEST (what 0), the least MEAN cost then, in hundredths, floor (1). NONE when none waits, or is"
            + " maybe, or for others.")
    static void ringOfOthers() {
        AndGuest x = sent(EIGHT, 128);
        due("ring(0)", x.ring(0), 7);
        due("ring(1)", x.ring(1), 1000);
        due("ring(2)", x.ring(2), NONE);
        due("ring(-1)", x.ring(-1), NONE);
        for (int wild : Edges.WILD) {
            due("ring(" + wild + ")", x.ring(wild), NONE);
        }
        due("answer", x.answer(7, 4), true);
        due("who is maybe", x.ring(0), 7);
        for (int what = 0; what < 2; what++) {
            due("none asked", Edges.told(TWO).ring(what), NONE);
            due("no GUESTS", Edges.told(HEAD).ring(what), NONE);
            due("no wedding", new AndGuest().ring(what), NONE);
        }
        due("answer", x.answer(7, 2), true);
        due("who is coming", x.ring(0), NONE);
        due("answer", x.answer(7, 3), true);
        due("who is not", x.ring(1), NONE);
    }

    @Says("23: the least MEAN cost then, in hundredths, floor (1).")
    static void ringIsFloored() {
        AndGuest x = sent("seats 0 bench 0 plate 1 lack 13;" + Edges.guests(3, 1, 0, 0, 0), 7);
        // One comes: 1 + 13 * 0.2 or 2 + 13 * 0.01 = 2.13; he comes not: 1 + 13 * 0.01 = 1.13; so 0.213 + 1.017 = 1.23.
        due("ring(1)", x.ring(1), 123);
        AndGuest y = sent("seats 0 bench 0 plate 1 lack 13;" + Edges.guests(4, 1, 0, 0, 0), 15);
        // He comes: 2 + 13 * 0.029 = 2.377; comes not: 1 + 13 * 0.029 = 1.377; so 0.2377 + 1.2393 = 1.477.
        due("ring(1)", y.ring(1), 147);
    }

    @Says("24: ODDS of a FULL YEAR, in millionths (floor); NONE without a wedding.")
    static void fullWithoutAWedding() {
        due("no wedding", new AndGuest().full(), NONE);
        due("no GUESTS", Edges.told(HEAD).full(), 500000);
        AndGuest x = sent(HEAD + Edges.guest("a", 4, 0, 0, 0) + "more 1;", 1);
        due("answer", x.answer(0, 2), true);
        // 5 of 9
        due("floor", x.full(), 555555);
        due("answer", x.answer(0, 3), true);
        // 5 of 11
        due("floor", x.full(), 454545);
    }

    // ---- 25: seen

    @Says("25: so many (0 .. 32), so much joy (0 .. 792): how many (what 0), GUESTS in all of them, as bits (1; 0 without),"
            + " in some (2).")
    static void seenAtLeastAndMost() {
        AndGuest x = Edges.told(HEAD + Edges.guests(8, 5, 99, 3, 0));
        int[] none = {1, 0, 0};
        int[] all = {1, 255, 255};
        for (int what = 0; what < 3; what++) {
            due("none", x.seen(0, 0, what), none[what]);
            due("all", x.seen(32, 792, what), all[what]);
            due("no set", x.seen(0, 792, what), 0);
            due("no set", x.seen(32, 0, what), 0);
            due("no GUESTS", Edges.told(HEAD).seen(0, 0, what), none[what]);
            due("no GUESTS, no set", Edges.told(HEAD).seen(1, 1, what), 0);
        }
    }

    @Says("25: NONE when they can't be, without a wedding, or for others.")
    static void seenOfWhatCanNotBe() {
        AndGuest x = Edges.told(EIGHT);
        for (int what = 0; what < 3; what++) {
            due("sat 33", x.seen(33, 0, what), NONE);
            due("sat -1", x.seen(-1, 0, what), NONE);
            due("joy 793", x.seen(0, 793, what), NONE);
            due("joy -1", x.seen(0, -1, what), NONE);
            due("no wedding", new AndGuest().seen(0, 0, what), NONE);
            for (int wild : Edges.WILD) {
                due("sat " + wild, x.seen(wild, 0, what), NONE);
                due("joy " + wild, x.seen(0, wild, what), NONE);
                due("what " + wild, x.seen(0, 0, wild), NONE);
            }
        }
        due("what 3", x.seen(0, 0, 3), NONE);
        due("what -1", x.seen(0, 0, -1), NONE);
    }

    // ---- 26: send

    @Says("26: Cards go to a SET of GUESTS (bits): how many cards")
    static void howManyCards() {
        for (int set = 1; set < 256; set++) {
            AndGuest x = sent(EIGHT, set);
            due("asked", x.has(4), Integer.bitCount(set));
            due("waiting", x.has(5), Integer.bitCount(set));
            due("of these", x.guest(0, 4), set & 1);
            due("of these", x.guest(7, 4), set >> 7);
        }
    }

    private static void notSent(AndGuest x, int set) {
        int refused = x.status(2);
        int acts = x.has(10);
        int asked = x.has(4);
        due("send(" + set + ")", x.send(set), NONE);
        due("refused", x.status(2), refused + 1);
        due("acts", x.has(10), acts);
        due("asked", x.has(4), asked);
    }

    @Says("26: NONE, refused (2), when it can't be.")
    static void setsThatCanNotBe() {
        AndGuest x = sent(HEAD + Edges.guests(3, 5, 7, 1, 4) + "pulls b c;", 1);
        for (int set : new int[] {0, 1, 2, 3, 5, 7, 8, 9, 12, 16, -1, 256, 1 << 30, Integer.MIN_VALUE + 4}) {
            notSent(x, set);
        }
        for (int wild : Edges.WILD) {
            notSent(x, wild);
        }
        due("the rest", x.send(6), 2);
        notSent(x, 4);
        notSent(x, 0);
        AndGuest y = Edges.told(EIGHT);
        notSent(y, -1);
        notSent(y, Integer.MAX_VALUE);
        notSent(y, 256);
        notSent(y, 257);
        due("all eight", y.send(255), 8);
        notSent(Edges.told(HEAD), 1);
        notSent(new AndGuest(), 0);
        notSent(new AndGuest(), 1);
    }

    // ---- 27: answer

    private static void notAnswered(AndGuest x, int guest, int how) {
        int refused = x.status(2);
        int acts = x.has(10);
        due("answer(" + guest + ", " + how + ")", x.answer(guest, how), false);
        due("refused", x.status(2), refused + 1);
        due("acts", x.has(10), acts);
    }

    @Says("27: A GUEST asked answers: coming (2), not (3), maybe (4): true")
    static void eachAnswer() {
        for (int how = 2; how <= 4; how++) {
            AndGuest x = sent(EIGHT, 255);
            due("the first", x.answer(0, how), true);
            due("the last", x.answer(7, how), true);
            due("how", x.guest(0, 4), how);
            due("how", x.guest(7, 4), how);
            due("others wait", x.has(5), 6);
            refusals(x, 0, 0, 0);
        }
    }

    @Says("27: false, refused (2), when he is not asked, said so already, there is none such, or for others.")
    static void whoIsNotAskedAnswersNot() {
        AndGuest x = sent(TWO, 2);
        for (int how = 0; how <= 5; how++) {
            notAnswered(x, 0, how);
        }
        due("how", x.guest(0, 4), 0);
    }

    @Says("27: said so already")
    static void whoSaidSoAlreadyAnswersNot() {
        for (int how = 2; how <= 4; how++) {
            AndGuest x = sent(TWO, 3);
            due("answer", x.answer(1, how), true);
            notAnswered(x, 1, how);
            due("the other", x.answer(0, how), true);
        }
    }

    @Says("27: there is none such, or for others.")
    static void noSuchAnswer() {
        AndGuest x = sent(TWO, 3);
        for (int how : new int[] {0, 1, 5, -1, 6}) {
            notAnswered(x, 0, how);
        }
        due("answer", x.answer(0, 3), true);
        for (int how : new int[] {0, 1, 5}) {
            notAnswered(x, 0, how);
        }
        notAnswered(x, 2, 2);
        notAnswered(x, -1, 2);
        notAnswered(sent(EIGHT, 255), 8, 2);
        for (int wild : Edges.WILD) {
            notAnswered(x, wild, 2);
            notAnswered(x, 1, wild);
        }
        due("how", x.guest(1, 4), 1);
        notAnswered(Edges.told(HEAD), 0, 2);
        notAnswered(new AndGuest(), 0, 2);
    }

    // ---- 28, 29: weeks, chance

    private static void noWeeks(AndGuest x, int n) {
        int refused = x.status(3);
        int acts = x.has(10);
        int week = x.has(3);
        due("weeks(" + n + ")", x.weeks(n), false);
        due("chance(" + n + ")", x.chance(n), NONE);
        due("refused", x.status(3), refused + 2);
        due("acts", x.has(10), acts);
        due("WEEK", x.has(3), week);
    }

    @Says("28: n WEEKS go by without DRAWS (1 .. 99), one ACT: true")
    static void oneWeekAnd99() {
        AndGuest x = sent(TWO + "soon 100;", 3);
        due("weeks(1)", x.weeks(1), true);
        due("WEEK", x.has(3), 1);
        due("weeks(99)", x.weeks(99), true);
        due("WEEK", x.has(3), 100);
        due("one ACT each", x.has(10), 3);
        due("all wait", x.has(5), 2);
        due("undo", x.undo(), true);
        due("WEEK", x.has(3), 1);
    }

    @Says("28: false, refused (3), when they can't, or without a wedding.")
    static void weeksThatCanNotGoBy() {
        AndGuest x = sent(TWO, 3);
        noWeeks(x, 0);
        noWeeks(x, 100);
        noWeeks(x, -1);
        noWeeks(x, -99);
        for (int wild : Edges.WILD) {
            noWeeks(x, wild);
        }
        noWeeks(new AndGuest(), 1);
        noWeeks(new AndGuest(), 0);
    }

    @Says("28: when they can't")
    static void weeksBehindWeek999() {
        AndGuest x = sent(TWO + "soon 0;", 3);
        Edges.pass(x, 901);
        noWeeks(x, 99);
        due("98", x.weeks(98), true);
        noWeeks(x, 1);
        noWeeks(x, 99);
        due("undo", x.undo(), true);
        due("98 by the seed", x.chance(98), 0);
        noWeeks(x, 1);
        due("undo", x.undo(), true);
        due("97", x.weeks(97), true);
        noWeeks(x, 2);
        due("1", x.chance(1), 0);
        due("WEEK", x.has(3), 999);
    }

    @Says("29: n WEEKS by the seed (1 .. 99), one ACT: how many answered")
    static void oneWeekAnd99BySeed() {
        AndGuest x = sent(EIGHT + "soon 0;", 255);
        due("chance(1)", x.chance(1), 0);
        due("WEEK", x.has(3), 1);
        due("chance(99)", x.chance(99), 0);
        due("WEEK", x.has(3), 100);
        due("acts", x.has(10), 3);
        AndGuest y = sent(EIGHT + "soon 100;", 255);
        due("all eight answer", y.chance(99), 8);
        due("none is left", y.chance(1), 0);
        due("acts", y.has(10), 3);
        due("undo", y.undo(), true);
        due("undo", y.undo(), true);
        due("all wait", y.has(5), 8);
        due("WEEK", y.has(3), 0);
    }

    @Says("29: how many answered; NONE, refused (3), when they can't, or without a wedding.")
    static void aRefusedChanceDrawsNot() {
        // By the seed 0 the first DRAW of 100 is 92, the next 21.
        AndGuest x = sent(TWO + "soon 93;", 1);
        due("seed", x.seed(0), true);
        noWeeks(x, 100);
        noWeeks(x, 0);
        due("92 is below 93", x.chance(1), 1);
        AndGuest y = sent(TWO + "soon 92;", 1);
        due("seed", y.seed(0), true);
        noWeeks(y, 100);
        due("92 is not below 92", y.chance(1), 0);
    }

    @Says("29: n WEEKS by the seed (1 .. 99), one ACT: how many answered")
    static void nobodyToAnswer() {
        AndGuest x = Edges.told(HEAD);
        due("no GUESTS", x.chance(99), 0);
        due("WEEK", x.has(3), 99);
        due("none asked", Edges.told(EIGHT + "soon 100;").chance(9), 0);
    }

    // ---- 30, 31: undo, seed

    @Says("30: The latest ACT is undone (the seed stays): true; false, refused (4), when none can be.")
    static void nothingToUndo() {
        AndGuest x = new AndGuest();
        due("no wedding", x.undo(), false);
        due("wedding", Check.tell(x, TWO), 3);
        due("no ACT", x.undo(), false);
        due("refused call", x.send(0), NONE);
        due("no ACT", x.undo(), false);
        refusals(x, 0, 0, 1, 0, 3, 0);
        due("send", x.send(1), 1);
        due("undo", x.undo(), true);
        due("no more", x.undo(), false);
        refusals(x, 0, 0, 1, 0, 4, 0);
    }

    @Says("30: The latest ACT is undone (the seed stays)")
    static void theSeedIsNotUndone() {
        // By the seed 0: 92, 1; then 71, 0.
        AndGuest x = sent(HEAD + Edges.guest("a", 1, 0, 0, 0) + "soon 93;", 1);
        due("seed", x.seed(0), true);
        due("chance", x.chance(1), 1);
        due("1 is not below 1", x.guest(0, 4), 3);
        due("undo", x.undo(), true);
        due("waits", x.guest(0, 4), 1);
        due("WEEK", x.has(3), 0);
        due("chance", x.chance(1), 1);
        due("0 is below 1", x.guest(0, 4), 2);
        due("seed", x.seed(0), true);
        due("the seed is no ACT", x.has(10), 2);
        due("undo", x.undo(), true);
        due("chance", x.chance(1), 1);
        due("the seed given stays", x.guest(0, 4), 3);
    }

    @Says("30: The latest ACT is undone")
    static void theFirstCardIsUndone() {
        AndGuest x = sent(TWO + "late 5;", 1);
        due("undo", x.undo(), true);
        due("image", x.image(), 11);
        due("no first card", x.octet(2), 255);
        due("weeks", x.weeks(3), true);
        due("send", x.send(2), 1);
        due("this is the first", x.guest(1, 7), 0);
        due("offence", x.offence(), 0);
    }

    @Says("31: The seed: true; false, refused (5), when it is below 0. (It is 1 at first.)")
    static void seedsBelow0() {
        AndGuest x = new AndGuest();
        due("seed(0)", x.seed(0), true);
        due("greatest", x.seed(Integer.MAX_VALUE), true);
        due("seed(-1)", x.seed(-1), false);
        due("least", x.seed(Integer.MIN_VALUE), false);
        refusals(x, 0, 0, 0, 0, 0, 2);
    }

    @Says("31: false, refused (5), when it is below 0.")
    static void aRefusedSeedLeavesTheSeed() {
        AndGuest x = sent(TWO + "soon 93;", 1);
        due("seed", x.seed(0), true);
        due("refused", x.seed(-1), false);
        due("92 is below 93", x.chance(1), 1);
        AndGuest y = sent(TWO + "soon 92;", 1);
        due("seed", y.seed(0), true);
        due("refused", y.seed(Integer.MIN_VALUE), false);
        due("92 is not below 92", y.chance(1), 0);
    }

    @Says("31: (It is 1 at first.)")
    static void oneAtFirst() {
        // By the seed 1: 18 and 9.
        due("18 is not below 18", sent(TWO + "soon 18;", 1).chance(1), 0);
        AndGuest x = sent(HEAD + Edges.guest("a", 9, 0, 0, 0) + "soon 19;", 1);
        due("18 is below 19", x.chance(1), 1);
        due("9 is not below 9", x.guest(0, 4), 3);
    }

    // ---- 32: ask

    @Says("32: The tape (it goes, refused or not) is a QUESTION: its answer")
    static void theTapeGoesWithAQuestion() {
        AndGuest x = Edges.told(TWO);
        due("ask", Check.ask(x, "total joy"), 14);
        due("the tape is empty", x.end(1), false);
        due("ask", Check.ask(x, "total joy?"), NOTHING);
        due("the tape is empty", x.end(1), false);
        due("an empty one", x.ask(), NOTHING);
        due("fault(0)", x.fault(0), 1);
        due("fault(1)", x.fault(1), 0);
    }

    @Says("32: NONE of first, last, when its TEST holds for none")
    static void noneOfFirstAndLast() {
        AndGuest x = Edges.told(TWO);
        due("first", Check.ask(x, "first joy=8"), NONE);
        due("fault(0)", x.fault(0), 0);
        due("last", Check.ask(x, "last joy=8"), NONE);
        due("often", Check.ask(x, "often joy=8"), 0);
    }

    @Says("32: NOTHING with a FAULT")
    static void aQuestionsFaultIsNoRefusal() {
        AndGuest x = Edges.told(TWO);
        due("ask", Check.ask(x, "first joy=8;"), NOTHING);
        due("fault(0)", x.fault(0), 1);
        due("fault(1)", x.fault(1), 11);
        refusals(x, 0, 0, 0, 0, 0, 0);
    }

    @Says("32: (the tape goes, nothing else is done, fault() stays) without a wedding.")
    static void withoutAWedding() {
        AndGuest x = new AndGuest();
        due("right", Check.ask(x, "total 1"), NOTHING);
        due("the tape is empty", x.end(1), false);
        due("fault(0)", x.fault(0), 0);
        due("fault(1)", x.fault(1), NONE);
        due("wrong", Check.ask(x, "?"), NOTHING);
        due("fault(0)", x.fault(0), 0);
        due("wedding", Check.tell(x, "seats 41"), NONE);
        due("wrong", Check.ask(x, "?"), NOTHING);
        due("the tape is empty", x.end(1), false);
        due("fault(0)", x.fault(0), 2);
        due("fault(1)", x.fault(1), 6);
        refusals(x, 2, 1, 0, 0, 0, 0);
    }

    @Says("32: is a QUESTION: its answer")
    static void aQuestionDoesNothing() {
        AndGuest x = sent(TWO, 1);
        due("ask", Check.ask(x, "total weeks*joy+how"), 1);
        due("acts", x.has(10), 1);
        due("waits", x.guest(0, 4), 1);
    }

    @Says("32: The tape (it goes, refused or not) is a QUESTION: its answer")
    static void theLongestQuestion() {
        AndGuest x = Edges.told(HEAD + Edges.guest("a", 5, 1, 0, 0));
        due("of 1600 bytes", Check.ask(x, "total  1" + "+1".repeat(796)), 797);
        due("of signs close together", Check.ask(x, "total 0" + "+joy*2".repeat(265)), 530);
    }

    // ---- 33, 34: image, octet

    @Says("33: AN IMAGE is written: how many bytes.")
    static void bytesOfAnImage() {
        due("no wedding", new AndGuest().image(), 5);
        due("no GUESTS", Edges.told(HEAD).image(), 5);
        for (int n = 1; n <= 8; n++) {
            due("GUESTS " + n, Edges.told(HEAD + Edges.guests(n, 1, 1, 1, 1)).image(), 5 + 3 * n);
        }
    }

    @Says("33: AN IMAGE is written")
    static void anImageWithoutAWedding() {
        AndGuest x = new AndGuest();
        due("image", x.image(), 5);
        int[] want = {0, 0, 255, 255, 172, NONE};
        for (int k = 0; k < want.length; k++) {
            due("octet(" + k + ")", x.octet(k), want[k]);
        }
    }

    @Says("34: Byte k of the latest image(); NONE when there is none such.")
    static void noSuchByte() {
        AndGuest x = Edges.told(EIGHT);
        due("no image", x.octet(0), NONE);
        due("image", x.image(), 29);
        due("octet(0)", x.octet(0), 0);
        due("octet(28)", x.octet(28) >= 0, true);
        due("octet(29)", x.octet(29), NONE);
        due("octet(-1)", x.octet(-1), NONE);
        for (int wild : Edges.WILD) {
            due("octet(" + wild + ")", x.octet(wild), NONE);
        }
    }

    @Says("34: Byte k of the latest image()")
    static void theLatestImageStays() {
        AndGuest x = Edges.told(TWO);
        due("weeks", x.weeks(7), true);
        due("image", x.image(), 11);
        due("weeks", x.weeks(2), true);
        due("still 7", x.octet(1), 7);
        due("undo", x.undo(), true);
        due("send", x.send(1), 1);
        due("still none", x.octet(3), 255);
        due("image", x.image(), 11);
        due("now 7", x.octet(3), 7);
        due("a smaller one", Check.tell(x, HEAD), 1);
        due("still of the one ahead", x.octet(3), 7);
        due("to its end", x.octet(10) >= 0, true);
        due("image", x.image(), 5);
        due("no byte of the one ahead", x.octet(5), NONE);
    }

    // ---- 35: on

    private static void on(AndGuest x, boolean want, String why, byte[] picture) {
        int refused = x.status(5);
        due("on: " + why, Edges.on(x, picture), want);
        due("refused: " + why, x.status(5), refused + (want ? 0 : 1));
        due("the tape goes: " + why, x.end(1), false);
    }

    @Says("35: The tape (it goes, refused or not) is AN IMAGE of this WEDDING: true, all is as it tells, nothing can be undone")
    static void allIsAsItTells() {
        AndGuest x = sent(HEAD + Edges.guests(5, 5, 1, 0, 0) + "late weeks;", 31);
        on(x, true, "all of it", Edges.picture(3, 231, 1, 0, 0, 0, 0, 1, 0, 0, 2, 0, 255, 3, 1, 0, 4, 2, 231));
        int[] how = {0, 1, 2, 3, 4};
        int[] behind = {NONE, 0, 255, 256, 743};
        for (int g = 0; g < 5; g++) {
            due("how " + g, x.guest(g, 4), how[g]);
            due("behind " + g, x.guest(g, 7), behind[g]);
        }
        due("WEEK", x.has(3), 999);
        due("offence", x.offence(), 255 + 256 + 743);
        due("nothing can be undone", x.has(10), 0);
        due("nothing can be undone", x.undo(), false);
        due("image", x.image(), 20);
        due("octet", x.octet(18), 231);
    }

    @Says("35: true, all is as it tells, nothing can be undone")
    static void whatGoesOnBehindIt() {
        AndGuest x = Edges.told(TWO + "late weeks;");
        on(x, true, "a asked in WEEK 3", Edges.picture(0, 9, 0, 3, 1, 0, 0, 0, 0, 0));
        due("send", x.send(2), 1);
        due("six behind", x.guest(1, 7), 6);
        due("offence", x.offence(), 6);
        due("undo", x.undo(), true);
        due("undo no more", x.undo(), false);
        due("a waits", x.guest(0, 4), 1);
        due("weeks", x.weeks(1), true);
        due("WEEK", x.has(3), 10);
    }

    @Says("35: AN IMAGE of this WEDDING: true")
    static void itsOwnImage() {
        AndGuest x = sent(EIGHT, 1);
        due("chance", x.chance(9), 1);
        due("send", x.send(254), 7);
        due("chance", x.chance(1) >= 0, true);
        byte[] image = new byte[x.image()];
        for (int k = 0; k < image.length; k++) {
            image[k] = (byte) x.octet(k);
        }
        on(x, true, "at once", image);
        AndGuest y = Edges.told(EIGHT);
        on(y, true, "another object", image);
        due("image", y.image(), image.length);
        for (int k = 0; k < image.length; k++) {
            due("octet", y.octet(k), image[k] & 255);
        }
        due("worth", y.worth(), x.worth());
    }

    @Says("35: false, refused (5), when it is none (WEEK 999 at most")
    static void week999AndNotMore() {
        AndGuest x = Edges.told(HEAD);
        on(x, true, "WEEK 999", Edges.picture(3, 231, 255, 255));
        due("no WEEK more", x.weeks(1), false);
        on(x, true, "WEEK 0", Edges.picture(0, 0, 255, 255));
        on(x, false, "WEEK 1000", Edges.picture(3, 232, 255, 255));
        on(x, false, "WEEK 1024", Edges.picture(4, 0, 255, 255));
        on(x, false, "WEEK 32768", Edges.picture(128, 0, 255, 255));
        on(x, false, "WEEK 65535", Edges.picture(255, 255, 255, 255));
        due("WEEK", x.has(3), 0);
    }

    @Says("35: no first card behind it")
    static void theFirstCardIsNotBehindTheWeek() {
        AndGuest x = Edges.told(HEAD + Edges.guest("a", 1, 1, 1, 1));
        on(x, true, "in it", Edges.picture(0, 9, 0, 9, 1, 0, 0));
        on(x, false, "a WEEK behind", Edges.picture(0, 9, 0, 10, 1, 0, 0));
        on(x, true, "256 in it", Edges.picture(1, 0, 1, 0, 1, 0, 0));
        on(x, false, "256 behind 255", Edges.picture(0, 255, 1, 0, 1, 0, 0));
        on(x, false, "999 behind 998", Edges.picture(3, 230, 3, 231, 1, 0, 0));
        on(x, false, "65534", Edges.picture(0, 9, 255, 254, 1, 0, 0));
        on(x, false, "65279", Edges.picture(0, 9, 254, 255, 1, 0, 0));
    }

    @Says("35: 255, 255 just when none is asked")
    static void noFirstCardJustWhenNoneIsAsked() {
        AndGuest x = Edges.told(TWO);
        on(x, true, "none is asked", Edges.picture(0, 9, 255, 255, 0, 0, 0, 0, 0, 0));
        on(x, false, "none is asked, and a first card", Edges.picture(0, 9, 0, 0, 0, 0, 0, 0, 0, 0));
        on(x, false, "none is asked, and a first card now", Edges.picture(0, 9, 0, 9, 0, 0, 0, 0, 0, 0));
        for (int how = 1; how <= 4; how++) {
            on(x, false, "the first is asked, and no card", Edges.picture(0, 9, 255, 255, how, 0, 0, 0, 0, 0));
            on(x, false, "the last is asked, and no card", Edges.picture(0, 9, 255, 255, 0, 0, 0, how, 0, 0));
        }
        on(x, false, "without GUESTS, and a first card", Edges.picture(0, 0, 0, 0));
        AndGuest y = Edges.told(HEAD);
        on(y, false, "no GUESTS, and a first card", Edges.picture(0, 0, 0, 0));
        on(y, true, "no GUESTS", Edges.picture(0, 0, 255, 255));
    }

    @Says("35: of one not asked no WEEKS")
    static void noWeeksOfOneNotAsked() {
        AndGuest x = Edges.told(TWO);
        on(x, true, "none", Edges.picture(0, 9, 0, 3, 1, 0, 0, 0, 0, 0));
        on(x, false, "one", Edges.picture(0, 9, 0, 3, 1, 0, 0, 0, 0, 1));
        on(x, false, "256", Edges.picture(3, 9, 0, 3, 1, 0, 0, 0, 1, 0));
        on(x, false, "one, with none asked", Edges.picture(0, 9, 255, 255, 0, 0, 0, 0, 0, 1));
        on(x, false, "65535, with none asked", Edges.picture(0, 9, 255, 255, 0, 255, 255, 0, 0, 0));
    }

    @Says("35: no card behind the WEEK")
    static void noCardBehindTheWeek() {
        AndGuest x = Edges.told(TWO);
        on(x, true, "in it", Edges.picture(0, 9, 0, 3, 1, 0, 0, 2, 0, 6));
        on(x, false, "a WEEK behind", Edges.picture(0, 9, 0, 3, 1, 0, 0, 2, 0, 7));
        on(x, false, "the first of them", Edges.picture(0, 9, 0, 3, 4, 0, 7, 2, 0, 0));
        on(x, true, "999", Edges.picture(3, 231, 0, 0, 1, 3, 231, 2, 0, 0));
        on(x, false, "1000", Edges.picture(3, 231, 0, 0, 1, 3, 232, 2, 0, 0));
        on(x, false, "65535", Edges.picture(3, 231, 0, 0, 1, 255, 255, 2, 0, 0));
    }

    @Says("35: one at least in that of the first card)")
    static void oneInTheWeekOfTheFirstCard() {
        AndGuest x = Edges.told(TWO);
        on(x, true, "both", Edges.picture(0, 9, 0, 3, 1, 0, 0, 2, 0, 0));
        on(x, true, "the first", Edges.picture(0, 9, 0, 3, 1, 0, 0, 2, 0, 1));
        on(x, true, "the last", Edges.picture(0, 9, 0, 3, 1, 0, 1, 2, 0, 0));
        on(x, false, "neither", Edges.picture(0, 9, 0, 3, 1, 0, 1, 2, 0, 1));
        on(x, false, "one not asked is none", Edges.picture(0, 9, 0, 3, 0, 0, 0, 2, 0, 1));
    }

    @Says("35: AN IMAGE of this WEDDING")
    static void anImageBehindOneOfMoreGuests() {
        AndGuest x = Edges.told(EIGHT);
        byte[] all = Edges.picture(0, 9, 0, 3, 1, 0, 0, 2, 0, 1, 3, 0, 2, 4, 0, 3, 1, 0, 4, 2, 0, 5, 3, 0, 6, 4, 0, 0);
        on(x, true, "all eight", all);
        due("wedding", Check.tell(x, TWO), 3);
        on(x, false, "of eight", all);
        on(x, true, "of two, none asked", Edges.picture(0, 9, 255, 255, 0, 0, 0, 0, 0, 0));
        due("asked", x.has(4), 0);
        due("wedding", Check.tell(x, EIGHT), 9);
        due("image", x.image(), 29);
        due("none of the eight is asked", x.octet(4 + 3 * 7), 0);
    }

    @Says("35: AN IMAGE of this WEDDING")
    static void eachHowFrom0To4() {
        AndGuest x = Edges.told(TWO);
        for (int how = 1; how <= 4; how++) {
            on(x, true, "how " + how, Edges.picture(0, 0, 0, 0, 1, 0, 0, how, 0, 0));
            due("how", x.guest(1, 4), how);
        }
        for (int how : new int[] {5, 6, 127, 128, 254, 255}) {
            on(x, false, "how " + how, Edges.picture(0, 0, 0, 0, 1, 0, 0, how, 0, 0));
            on(x, false, "how " + how, Edges.picture(0, 0, 0, 0, how, 0, 0, 1, 0, 0));
        }
        due("how", x.guest(1, 4), 4);
    }

    @Says("35: AN IMAGE of this WEDDING")
    static void justSoManyBytes() {
        AndGuest x = Edges.told(TWO);
        on(x, true, "two GUESTS", Edges.picture(0, 1, 255, 255, 0, 0, 0, 0, 0, 0));
        on(x, false, "one GUEST", Edges.picture(0, 1, 255, 255, 0, 0, 0));
        on(x, false, "three GUESTS", Edges.picture(0, 1, 255, 255, 0, 0, 0, 0, 0, 0, 0, 0, 0));
        on(x, false, "a byte too few", Edges.picture(0, 1, 255, 255, 0, 0, 0, 0, 0));
        on(x, false, "a byte too many", Edges.picture(0, 1, 255, 255, 0, 0, 0, 0, 0, 0, 0));
        on(x, false, "nothing", new byte[0]);
        on(x, false, "one byte", new byte[] {67});
        AndGuest y = Edges.told(HEAD);
        on(y, false, "four bytes", Edges.picture(0, 0, 255));
        on(y, false, "no bytes", new byte[0]);
    }

    @Says("35: AN IMAGE of this WEDDING")
    static void theLastByteMustBeRight() {
        AndGuest x = Edges.told(TWO);
        byte[] right = Edges.picture(0, 9, 0, 3, 1, 0, 0, 2, 0, 6);
        for (int last = 0; last < 256; last++) {
            if (last % 2 == 0 || (byte) last == right[10]) {
                byte[] one = right.clone();
                one[10] = (byte) last;
                due("last byte " + last, Edges.on(last < 128 ? x : Edges.told(TWO), one), one[10] == right[10]);
            }
        }
        AndGuest y = Edges.told(TWO);
        byte[] plus = right.clone();
        plus[10]++;
        on(y, false, "one more", plus);
        byte[] spoilt = right.clone();
        spoilt[1]--;
        on(y, false, "another byte", spoilt);
        on(y, true, "right", right);
    }

    @Says("35: or without a wedding, all staying.")
    static void onWithoutAWedding() {
        AndGuest x = new AndGuest();
        on(x, false, "as it would be without GUESTS", Edges.picture(0, 0, 255, 255));
        on(x, false, "WEEK 7", Edges.picture(0, 7, 255, 255));
        due("WEEK", x.has(3), 0);
        refusals(x, 2, 0, 0, 0, 0, 2);
    }

    @Says("35: all staying.")
    static void aRefusedImageLeavesAll() {
        AndGuest x = sent(TWO + "late 5;", 1);
        due("weeks", x.weeks(2), true);
        due("send", x.send(2), 1);
        due("image", x.image(), 11);
        on(x, false, "no card in the WEEK of the first", Edges.picture(0, 9, 0, 3, 4, 0, 1, 3, 0, 1));
        due("WEEK", x.has(3), 2);
        due("waiting", x.has(5), 2);
        due("acts", x.has(10), 3);
        due("offence", x.offence(), 5);
        due("behind", x.guest(1, 7), 2);
        due("image", x.octet(1), 2);
        due("undo", x.undo(), true);
        due("one is asked", x.has(4), 1);
    }

    @Says("35: false, refused (5), when it is none")
    static void setsThatAreNotWholeAreNotRefused() {
        AndGuest x = Edges.told(TWO + "pulls a b;");
        on(x, true, "a without b", Edges.picture(0, 0, 0, 0, 2, 0, 0, 0, 0, 0));
        due("b alone", x.send(2), 1);
    }

    @Says("35: all is as it tells")
    static void theSeedStaysWithAnImage() {
        AndGuest x = Edges.told(TWO + "soon 93;");
        due("seed", x.seed(0), true);
        on(x, true, "both wait", Edges.picture(0, 0, 0, 0, 1, 0, 0, 1, 0, 0));
        // 92, 1; 71, 0
        due("both answer", x.chance(1), 2);
        due("a", x.guest(0, 4), 2);
    }

    // ---- 36: status

    @Says("36: How many were refused: 0 feed(), end(); 1 wedding(); 2 send(), answer(); 3 weeks(), chance(); 4 undo();"
            + " 5 seed(), on().")
    static void eachRefusalCountsWhereItBelongs() {
        AndGuest x = Edges.told(TWO);
        refusals(x, 0, 0, 0, 0, 0, 0);
        due("end", x.end(1), false);
        refusals(x, 1, 0, 0, 0, 0, 0);
        due("wedding", x.wedding(), NONE);
        refusals(x, 1, 1, 0, 0, 0, 0);
        due("send", x.send(0), NONE);
        refusals(x, 1, 1, 1, 0, 0, 0);
        due("answer", x.answer(0, 2), false);
        refusals(x, 1, 1, 2, 0, 0, 0);
        due("weeks", x.weeks(0), false);
        refusals(x, 1, 1, 2, 1, 0, 0);
        due("chance", x.chance(0), NONE);
        refusals(x, 1, 1, 2, 2, 0, 0);
        due("undo", x.undo(), false);
        refusals(x, 1, 1, 2, 2, 1, 0);
        due("seed", x.seed(-1), false);
        refusals(x, 1, 1, 2, 2, 1, 1);
        due("on", x.on(), false);
        refusals(x, 1, 1, 2, 2, 1, 2);
        for (int k = 0; k < 80; k++) {
            blanks(x);
        }
        due("feed", blanks(x), NONE);
        refusals(x, 2, 1, 2, 2, 1, 2);
    }

    @Says("36: How many were refused")
    static void whatIsAskedIsNeverRefused() {
        AndGuest x = Edges.told(TWO);
        x.fault(9);
        x.has(99);
        x.letter(9, 9);
        x.guest(9, 9);
        x.far(9);
        x.odds(99);
        x.above(99);
        x.answers(99);
        x.would(99);
        x.safe(9);
        x.leave(9);
        x.enough(99);
        x.order(99);
        x.plates(9);
        x.ring(9);
        x.seen(99, 0, 0);
        x.octet(99);
        x.ask();
        x.status(9);
        refusals(x, 0, 0, 0, 0, 0, 0);
    }

    @Says("36: How many were refused")
    static void refusalsStayAcrossWeddings() {
        AndGuest x = new AndGuest();
        due("wedding", x.wedding(), NONE);
        due("undo", x.undo(), false);
        due("wedding", Check.tell(x, TWO), 3);
        refusals(x, 0, 1, 0, 0, 1, 0);
        due("on", Edges.on(x, Edges.picture(0, 0, 255, 255, 0, 0, 0, 0, 0, 0)), true);
        refusals(x, 0, 1, 0, 0, 1, 0);
    }

    @Says("36: NONE for others.")
    static void statusOfOthers() {
        AndGuest x = new AndGuest();
        due("status(6)", x.status(6), NONE);
        due("status(-1)", x.status(-1), NONE);
        for (int wild : Edges.WILD) {
            due("status(" + wild + ")", x.status(wild), NONE);
        }
    }
}

/** Terms, I: each edge that a sentence about a WEDDING's text names. */
public final class WeddingTextTest {
    private static final int NONE = Edges.NONE;
    private static final long NOTHING = Edges.NOTHING;
    private static final String HEAD = Edges.HEAD;
    private static final String TWO = HEAD + Edges.guests(2, 5, 7, 1, 4);
    private static final String EIGHT = HEAD + Edges.guests(8, 5, 1, 0, 1);
    private static final String[] OWN_WORDS = ("seats bench plate lack guest comes joy with slight pulls hears late maybe "
            + "soon more weeks size number how or and not all min max").split(" ");

    public static void main(String[] args) {
        Edges.run(WeddingTextTest.class);
    }

    private static void due(String what, long got, long want) {
        Edges.due(what, got, want);
    }

    // ---- { STATEMENT ; }

    @Says("I: A WEDDING is a text: { STATEMENT ; } (60 at most)")
    static void oneStatementIsEnough() {
        Edges.good(HEAD, 1);
    }

    @Says("I: { STATEMENT ; } (60 at most)")
    static void fiftyNineStatementsGo() {
        Edges.good(HEAD + "more 1;".repeat(58), 59);
    }

    @Says("I: { STATEMENT ; } (60 at most)")
    static void sixtyStatementsGo() {
        Edges.good(HEAD + "more 1;".repeat(59), 60);
    }

    @Says("I: { STATEMENT ; } (60 at most)")
    static void sixtyStatementsWithBlanksBehindGo() {
        Edges.good(HEAD + "more 1;".repeat(59) + " \n ", 60);
    }

    @Says("I: { STATEMENT ; } (60 at most)")
    static void aStatementWantsItsSign() {
        Edges.badBehind(HEAD, "more 1", 1, 6);
        Edges.badBehind(HEAD, "more 1 soon 1;", 1, 7);
        Edges.badBehind(HEAD, "more 1,", 1, 6);
    }

    @Says("I: { STATEMENT ; } (60 at most)")
    static void aSignWantsItsStatement() {
        Edges.bad(";", 1, 0);
        Edges.badBehind(HEAD, ";", 1, 0);
        Edges.badBehind(HEAD, "more 1; ;", 1, 8);
    }

    @Says("I: { STATEMENT ; } (60 at most)")
    static void theSixtiethStatementWantsItsSign() {
        Edges.badBehind(HEAD + "more 1;".repeat(58), "more 1", 1, 6);
    }

    // ---- seats

    @Says("I: seats N bench N plate N lack N (0 .. 40; 0 .. 99 each")
    static void seatsNoneGo() {
        AndGuest x = Edges.told("seats 0 bench 7 plate 0 lack 0;" + Edges.guest("a", 10, 0, 0, 0));
        due("has(2)", x.has(2), 0);
        due("each above is dear", x.would(1), -700);
    }

    @Says("I: seats N bench N plate N lack N (0 .. 40; 0 .. 99 each")
    static void seats40Go() {
        AndGuest x = Edges.told("seats 40 bench 99 plate 0 lack 0;" + Edges.guests(8, 10, 0, 3, 0));
        due("has(2)", x.has(2), 40);
        due("none above", x.would(255), 0);
    }

    @Says("I: seats N bench N plate N lack N (0 .. 40; 0 .. 99 each")
    static void seats41GoNot() {
        Edges.bad("seats 41 bench 0 plate 0 lack 0;", 2, 6);
        Edges.bad("seats 9999 bench 0 plate 0 lack 0;", 2, 6);
    }

    @Says("I: what a seat too few, a plate, a plate too few cost")
    static void bench0And99Go() {
        String guests = Edges.guest("a", 10, 0, 3, 0);
        due("bench 0", Edges.told("seats 0 bench 0 plate 0 lack 0;" + guests).would(1), 0);
        due("bench 1", Edges.told("seats 0 bench 1 plate 0 lack 0;" + guests).would(1), -400);
        due("bench 99", Edges.told("seats 0 bench 99 plate 0 lack 0;" + guests).would(1), -39600);
    }

    @Says("I: seats N bench N plate N lack N (0 .. 40; 0 .. 99 each")
    static void bench100GoesNot() {
        Edges.bad("seats 0 bench 100 plate 0 lack 0;", 2, 14);
    }

    @Says("I: what a seat too few, a plate, a plate too few cost")
    static void plate0And99Go() {
        due("plate 0", Edges.told("seats 0 bench 0 plate 0 lack 0;").order(32), 0);
        due("plate 1", Edges.told("seats 0 bench 0 plate 1 lack 0;").order(32), 3200);
        due("plate 99", Edges.told("seats 0 bench 0 plate 99 lack 0;").order(32), 316800);
    }

    @Says("I: seats N bench N plate N lack N (0 .. 40; 0 .. 99 each")
    static void plate100GoesNot() {
        Edges.bad("seats 0 bench 0 plate 100 lack 0;", 2, 22);
    }

    @Says("I: what a seat too few, a plate, a plate too few cost")
    static void lack0And99Go() {
        int[] lacks = {0, 1, 99};
        for (int lack : lacks) {
            AndGuest x = Edges.told("seats 0 bench 0 plate 0 lack " + lack + ";" + Edges.guests(8, 10, 0, 3, 0));
            due("send", x.send(255), 8);
            due("order(0)", x.order(0), 3200L * lack);
            due("order(31)", x.order(31), 100L * lack);
        }
    }

    @Says("I: seats N bench N plate N lack N (0 .. 40; 0 .. 99 each")
    static void lack100GoesNot() {
        Edges.bad("seats 0 bench 0 plate 0 lack 100;", 2, 29);
    }

    @Says("I: seats N bench N plate N lack N")
    static void seatsNeedsAllItsPartsInOrder() {
        Edges.bad("bench 0 seats 0 plate 0 lack 0;", 1, 0);
        Edges.bad("seats 0 plate 0 bench 0 lack 0;", 1, 8);
        Edges.bad("seats 0 bench 0 lack 0;", 1, 16);
        Edges.bad("seats 0 bench 0 plate 0;", 1, 23);
        Edges.bad("seats 0 bench 0 plate 0 lack;", 1, 28);
    }

    @Says("I: the first STATEMENT, and it alone")
    static void noOtherStatementIsFirst() {
        for (String other : new String[] {"guest a comes 1 joy 1 with 1 slight 1;", "pulls a b;", "hears a b;", "late 1;",
            "maybe 1;", "soon 1;", "more 1;"}) {
            Edges.bad(other + HEAD, 1, 0);
        }
    }

    @Says("I: the first STATEMENT, and it alone")
    static void noSecondSeats() {
        Edges.badBehind(HEAD, HEAD, 1, 0);
        Edges.badBehind(HEAD + "more 1;", " " + HEAD, 1, 1);
    }

    // ---- guest

    @Says("I: guest NAME comes N joy N with N slight N (0 .. 10 of ten; 0 .. 99; 0 .. 3 more; 0 .. 99; 8 GUESTS)")
    static void leastOfAGuestGo() {
        AndGuest x = Edges.told(HEAD + Edges.guest("a", 0, 0, 0, 0));
        int[] want = {0, 0, 1, 0};
        for (int what = 0; what < 4; what++) {
            due("guest(0, " + what + ")", x.guest(0, what), want[what]);
        }
    }

    @Says("I: guest NAME comes N joy N with N slight N (0 .. 10 of ten; 0 .. 99; 0 .. 3 more; 0 .. 99; 8 GUESTS)")
    static void mostOfAGuestGo() {
        AndGuest x = Edges.told(HEAD + Edges.guest("a", 10, 99, 3, 99));
        int[] want = {10, 99, 4, 99};
        for (int what = 0; what < 4; what++) {
            due("guest(0, " + what + ")", x.guest(0, what), want[what]);
        }
    }

    @Says("I: (0 .. 10 of ten;")
    static void comes11GoesNot() {
        Edges.badBehind(HEAD, "guest a comes 11 joy 1 with 1 slight 1;", 2, 14);
    }

    @Says("I: 0 .. 99; 0 .. 3 more;")
    static void joy100GoesNot() {
        Edges.badBehind(HEAD, "guest a comes 1 joy 100 with 1 slight 1;", 2, 20);
    }

    @Says("I: 0 .. 3 more;")
    static void with4GoesNot() {
        Edges.badBehind(HEAD, "guest a comes 1 joy 1 with 4 slight 1;", 2, 27);
    }

    @Says("I: 0 .. 99; 8 GUESTS)")
    static void slight100GoesNot() {
        Edges.badBehind(HEAD, "guest a comes 1 joy 1 with 1 slight 100;", 2, 36);
    }

    @Says("I: (0 .. 10 of ten;")
    static void noSignIsANumbersPart() {
        Edges.badBehind(HEAD, "guest a comes -1 joy 1 with 1 slight 1;", 1, 14);
        Edges.badBehind(HEAD, "guest a comes +1 joy 1 with 1 slight 1;", 1, 14);
    }

    @Says("I: guest NAME comes N joy N with N slight N")
    static void aGuestNeedsAllItsPartsInOrder() {
        Edges.badBehind(HEAD, "guest comes 1 joy 1 with 1 slight 1;", 1, 6);
        Edges.badBehind(HEAD, "guest a joy 1 comes 1 with 1 slight 1;", 1, 8);
        Edges.badBehind(HEAD, "guest a comes 1 with 1 slight 1;", 1, 16);
        Edges.badBehind(HEAD, "guest a comes 1 joy 1 slight 1;", 1, 22);
        Edges.badBehind(HEAD, "guest a comes 1 joy 1 with 1;", 1, 28);
        Edges.badBehind(HEAD, "guest a comes 1 joy 1 with 1 slight;", 1, 35);
        Edges.badBehind(HEAD, "guest a comes 1 joy 1 with 1 slight 1 1;", 1, 38);
    }

    @Says("I: 8 GUESTS)")
    static void noGuestGoes() {
        due("has(0)", Edges.told(HEAD).has(0), 0);
    }

    @Says("I: 8 GUESTS)")
    static void eightGuestsGo() {
        Edges.good(EIGHT, 9);
        due("has(0)", Edges.told(EIGHT).has(0), 8);
        due("the eighth", Edges.told(EIGHT).letter(7, 0), 8);
    }

    @Says("I: 8 GUESTS)")
    static void aNinthGuestGoesNot() {
        Edges.badBehind(EIGHT, Edges.guest("i", 1, 1, 1, 1), 5, 0);
    }

    // ---- pulls, hears

    @Says("I: pulls NAME NAME (two unlike GUESTS")
    static void nobodyPullsHimself() {
        Edges.badBehind(TWO, "pulls a a;", 3, 8);
        Edges.badBehind(TWO, "pulls b b;", 3, 8);
    }

    @Says("I: not told in that order already: who asks the first must ask the second one; 16 PULLS)")
    static void pullsToldAlreadyGoNot() {
        Edges.badBehind(TWO, "pulls a b;pulls a b;", 3, 18);
        Edges.badBehind(TWO, "pulls a b;pulls b a;pulls b a;", 3, 28);
    }

    @Says("I: not told in that order already: who asks the first must ask the second one; 16 PULLS)")
    static void pullsInTheOtherOrderGo() {
        AndGuest x = Edges.told(TWO + "pulls a b;pulls b a;");
        due("has(1)", x.has(1), 2);
        due("a alone", x.would(1), NOTHING);
        due("b alone", x.would(2), NOTHING);
        due("both", x.would(3), 700);
    }

    @Says("I: who asks the first must ask the second one")
    static void theFirstPullsTheSecond() {
        AndGuest x = Edges.told(TWO + "pulls a b;");
        due("the first alone", x.would(1), NOTHING);
        due("the second alone", x.would(2), 350);
    }

    @Says("I: 16 PULLS)")
    static void sixteenPullsGo() {
        Edges.good(EIGHT + Edges.pairs("pulls", 16), 25);
        due("has(1)", Edges.told(EIGHT + Edges.pairs("pulls", 16)).has(1), 16);
    }

    @Says("I: 16 PULLS)")
    static void aSeventeenthPullsGoesNot() {
        Edges.badBehind(EIGHT + Edges.pairs("pulls", 16), "pulls h a;", 5, 0);
    }

    @Says("I: 16 PULLS)")
    static void hearsAreNoPulls() {
        Edges.good(EIGHT + Edges.pairs("hears", 17) + Edges.pairs("pulls", 16), 42);
        due("has(1)", Edges.told(EIGHT + Edges.pairs("hears", 17)).has(1), 0);
    }

    @Says("I: hears NAME NAME (two unlike GUESTS")
    static void nobodyHearsOfHimself() {
        Edges.badBehind(TWO, "hears a a;", 3, 8);
        Edges.badBehind(TWO, "hears b b;", 3, 8);
    }

    @Says("I: not told in that order already: the first hears when the second one is asked; 24 of these)")
    static void hearsToldAlreadyGoNot() {
        Edges.badBehind(TWO, "hears a b;hears a b;", 3, 18);
    }

    @Says("I: not told in that order already: the first hears when the second one is asked; 24 of these)")
    static void hearsInTheOtherOrderGo() {
        AndGuest x = Edges.told(TWO + "hears a b;hears b a;");
        due("send", x.send(1), 1);
        due("b heard", x.offence(), 4);
        due("undo", x.undo(), true);
        due("send", x.send(2), 1);
        due("a heard", x.offence(), 4);
    }

    private static void due(String what, boolean got, boolean want) {
        Edges.due(what, got, want);
    }

    @Says("I: the first hears when the second one is asked")
    static void theFirstHearsOfTheSecond() {
        AndGuest x = Edges.told(TWO + "hears a b;");
        due("a asked, b hears nothing", x.would(1), 350);
        due("b asked, a hears", x.would(2), -50);
    }

    @Says("I: not told in that order already")
    static void pullsAndHearsOfTheSameTwoGo() {
        Edges.good(TWO + "pulls a b;hears a b;pulls b a;hears b a;", 7);
    }

    @Says("I: 24 of these)")
    static void twentyFourHearsGo() {
        Edges.good(EIGHT + Edges.pairs("hears", 24), 33);
    }

    @Says("I: 24 of these)")
    static void aTwentyFifthHearsGoesNot() {
        Edges.badBehind(EIGHT + Edges.pairs("hears", 24), "hears h a;", 5, 0);
    }

    @Says("I: 24 of these)")
    static void pullsAreNoHears() {
        Edges.good(EIGHT + Edges.pairs("pulls", 16) + Edges.pairs("hears", 24), 49);
    }

    // ---- late, maybe, soon, more

    private static AndGuest lateBy(String statements) {
        AndGuest x = Edges.told(TWO + statements);
        due("send", x.send(1), 1);
        Edges.pass(x, 3);
        due("send", x.send(2), 1);
        return x;
    }

    @Says("I: late SUM (one)")
    static void withoutLateNoneOffends() {
        due("offence", lateBy("").offence(), 0);
    }

    @Says("I: late SUM (one)")
    static void oneLateGoes() {
        due("offence", lateBy("late 8;").offence(), 8);
    }

    @Says("I: late SUM (one)")
    static void aSecondLateGoesNot() {
        Edges.badBehind(TWO + "late 8;", "late 8;", 5, 0);
    }

    @Says("I: maybe N (0 .. 10 of ten)")
    static void maybe0And10Go() {
        for (int n : new int[] {0, 1, 10}) {
            AndGuest x = Edges.told(TWO + "maybe " + n + ";");
            due("send", x.send(1), 1);
            due("answer", x.answer(0, 4), true);
            due("maybe " + n, x.guest(0, 5), n);
        }
    }

    @Says("I: maybe N (0 .. 10 of ten)")
    static void maybe11GoesNot() {
        Edges.badBehind(HEAD, "maybe 11;", 2, 6);
    }

    @Says("I: soon N (0 .. 100)")
    static void soon0And100Go() {
        int[] soon = {0, 1, 99, 100};
        int[] odds = {0, 10000, 990000, 1000000};
        for (int k = 0; k < soon.length; k++) {
            AndGuest x = Edges.told(TWO + "soon " + soon[k] + ";");
            due("send", x.send(1), 1);
            due("soon " + soon[k], x.answers(1), odds[k]);
        }
    }

    @Says("I: soon N (0 .. 100)")
    static void soon101GoesNot() {
        Edges.badBehind(HEAD, "soon 101;", 2, 5);
    }

    @Says("I: more N (0 .. 9)")
    static void more0And9Go() {
        int[] more = {0, 1, 9};
        // Coming by 1 of ten, or by 1, 2, 10 of ten in a FULL year.
        int[] odds = {500000, 666666, 909090};
        for (int k = 0; k < more.length; k++) {
            AndGuest x = Edges.told(HEAD + Edges.guest("a", 1, 1, 1, 1) + "more " + more[k] + ";");
            due("send", x.send(1), 1);
            due("answer", x.answer(0, 2), true);
            due("more " + more[k], x.full(), odds[k]);
        }
    }

    @Says("I: more N (0 .. 9)")
    static void more10GoesNot() {
        Edges.badBehind(HEAD, "more 10;", 2, 5);
    }

    @Says("I: the last one of each counts (5, 50, 2 without)")
    static void withoutAnyItIs5And50And2() {
        fiveFiftyTwo(Edges.told(HEAD + Edges.guest("a", 1, 1, 1, 1)), 5, 500000, 750000);
    }

    @Says("I: the last one of each counts (5, 50, 2 without)")
    static void theLastOfEachCounts() {
        fiveFiftyTwo(Edges.told(HEAD + "maybe 1;soon 2;more 1;" + Edges.guest("a", 1, 1, 1, 1)
                + "more 8;soon 20;maybe 3;more 3;maybe 9;soon 7;"), 9, 70000, 800000);
    }

    @Says("I: the last one of each counts (5, 50, 2 without)")
    static void nothingOfAnEarlierWeddingCounts() {
        AndGuest x = Edges.told(TWO + "maybe 1;soon 2;more 9;late 9;");
        due("wedding()", Check.tell(x, HEAD + Edges.guest("a", 1, 1, 1, 1)), 2);
        fiveFiftyTwo(x, 5, 500000, 750000);
        due("no late", x.offence(), 0);
    }

    private static void fiveFiftyTwo(AndGuest x, int maybe, int soon, int full) {
        due("send", x.send(1), 1);
        due("soon", x.answers(1), soon);
        due("answer", x.answer(0, 4), true);
        due("maybe", x.guest(0, 5), maybe);
        due("answer", x.answer(0, 2), true);
        due("more", x.full(), full);
    }

    // ---- SUM

    private static void late(String sum, int want) {
        due("late " + sum, lateBy("late " + sum + ";").guest(1, 6), want);
    }

    @Says("I: SUM: PRODUCT { + or - PRODUCT }.")
    static void aSumHasOnePartAtLeast() {
        late("7", 7);
        late("7+1", 8);
        late("7-1", 6);
        Edges.badBehind(HEAD, "late ;", 1, 5);
        Edges.badBehind(HEAD, "late 7+;", 1, 7);
        Edges.badBehind(HEAD, "late 7-;", 1, 7);
        Edges.badBehind(HEAD, "late +7;", 1, 5);
        Edges.badBehind(HEAD, "late -7;", 1, 5);
    }

    @Says("I: PRODUCT: PART { * or / PART }.")
    static void aProductHasOnePartAtLeast() {
        late("7*2", 14);
        late("7/2", 3);
        Edges.badBehind(HEAD, "late 7*;", 1, 7);
        Edges.badBehind(HEAD, "late 7/;", 1, 7);
        Edges.badBehind(HEAD, "late *7;", 1, 5);
        Edges.badBehind(HEAD, "late /7;", 1, 5);
        Edges.badBehind(HEAD, "late 7**7;", 1, 7);
    }

    @Says("I: PART: N (1 to 4 digits)")
    static void oneDigitGoes() {
        late("0", 0);
        late("9", 9);
    }

    @Says("I: PART: N (1 to 4 digits)")
    static void fourDigitsGo() {
        late("0009", 9);
        late("0000", 0);
        late("9999-9000", 999);
        late("9999-9998", 1);
    }

    @Says("I: PART: N (1 to 4 digits)")
    static void fourDigitsGoInEachNumber() {
        Edges.good("seats 0040 bench 0099 plate 0099 lack 0099;guest a comes 0010 joy 0099 with 0003 slight 0099;"
                + "maybe 0010;soon 0100;more 0009;", 5);
    }

    @Says("I: PART: N (1 to 4 digits)")
    static void aFifthDigitGoesNot() {
        Edges.badBehind(HEAD, "late 10000;", 1, 9);
        Edges.badBehind(HEAD, "late 00001;", 1, 9);
    }

    @Says("I: PART: N (1 to 4 digits); weeks; slight; joy; size; ( SUM ) ; min ( SUM , SUM ) ; max ( SUM , SUM ) .")
    static void eachPartGoes() {
        late("weeks", 3);
        late("slight", 4);
        late("joy", 7);
        late("size", 2);
        late("(5)", 5);
        late("min(5,6)", 5);
        late("max(5,6)", 6);
    }

    @Says("I: PART: N (1 to 4 digits); weeks; slight; joy; size; ( SUM ) ; min ( SUM , SUM ) ; max ( SUM , SUM ) .")
    static void noOtherWordIsAPart() {
        for (String word : "number how comes pulls late all not seats with first x weekss".split(" ")) {
            Edges.badBehind(HEAD, "late " + word + ";", 1, 5);
            Edges.badBehind(HEAD, "late 1+" + word + ";", 1, 7);
        }
        Edges.badBehind(HEAD, "late [1];", 1, 5);
        Edges.badBehind(HEAD, "late 1<2;", 1, 6);
    }

    @Says("I: ( SUM ) ; min ( SUM , SUM ) ; max ( SUM , SUM )")
    static void eachOpenOneIsClosed() {
        Edges.badBehind(HEAD, "late ();", 1, 6);
        Edges.badBehind(HEAD, "late (1;", 1, 7);
        Edges.badBehind(HEAD, "late 1);", 1, 6);
        Edges.badBehind(HEAD, "late (1,2);", 1, 7);
        Edges.badBehind(HEAD, "late min;", 1, 8);
        Edges.badBehind(HEAD, "late min 1;", 1, 9);
        Edges.badBehind(HEAD, "late min();", 1, 9);
        Edges.badBehind(HEAD, "late min(1);", 1, 10);
        Edges.badBehind(HEAD, "late min(1,);", 1, 11);
        Edges.badBehind(HEAD, "late min(1,2;", 1, 12);
        Edges.badBehind(HEAD, "late max(1,2,3);", 1, 12);
        Edges.badBehind(HEAD, "late max(,2);", 1, 9);
    }

    @Says("I: min ( SUM , SUM ) ; max ( SUM , SUM )")
    static void minAndMaxOfLikeOnes() {
        late("min(5,5)", 5);
        late("max(5,5)", 5);
        late("min(6,5)", 5);
        late("max(6,5)", 6);
        late("max(0-6,0-5)+9", 4);
        late("min(0-6,0-5)+9", 3);
    }

    @Says("I: Of a GUEST how many WEEKS behind the first card the card went; how slighted he is when left out;"
            + " his joy; how many come with him, he too.")
    static void whatTheWordsTellAtTheirEdges() {
        String late = "late weeks*100+size*10;";
        AndGuest x = Edges.told(HEAD + Edges.guest("a", 1, 1, 0, 0) + Edges.guest("b", 1, 99, 0, 0)
                + Edges.guest("c", 1, 0, 3, 99) + late);
        due("send", x.send(1), 1);
        due("weeks", x.weeks(1), true);
        due("send", x.send(2), 1);
        due("one WEEK, one head", x.guest(1, 6), 110);
        due("weeks", x.weeks(8), true);
        due("send", x.send(4), 1);
        due("nine WEEKS, four heads", x.guest(2, 6), 940);
        due("the first", x.guest(0, 6), 0);
        AndGuest y = Edges.told(HEAD + Edges.guest("a", 1, 1, 0, 0) + Edges.guest("b", 1, 99, 0, 0)
                + Edges.guest("c", 1, 0, 3, 99) + "late joy*5+slight*4;");
        due("send", y.send(1), 1);
        due("weeks", y.weeks(1), true);
        due("send", y.send(6), 2);
        due("joy 99, slight 0", y.guest(1, 6), 495);
        due("joy 0, slight 99", y.guest(2, 6), 396);
    }

    @Says("I: All from the left on")
    static void fromTheLeftOn() {
        late("20-5-4", 11);
        late("20-5+4", 19);
        late("100/7/2", 7);
        late("100/7*2", 28);
        late("2*7/3", 4);
        late("7/2*2", 6);
        late("2+3*4", 14);
        late("(2+3)*4", 20);
        late("20-6/4", 19);
        late("20-(5-4)", 19);
    }

    @Says("I: / gives the greatest whole number not above")
    static void divisionOfNumbersBelow0() {
        late("7/2", 3);
        late("6/2", 3);
        late("5/7", 0);
        late("(0-7)/2+9", 5);
        late("(0-6)/2+9", 6);
        late("7/(0-2)+9", 5);
        late("(0-7)/(0-2)+9", 12);
        late("(0-1)/9999+9", 8);
    }

    @Says("I: by 0 it gives 0")
    static void divisionBy0() {
        late("7/0+9", 9);
        late("0/0+9", 9);
        late("(0-7)/0+9", 9);
        late("7/(weeks-3)+9", 9);
    }

    @Says("I: each sum, difference, product above 10 to the 6 is that")
    static void aSumAbove() {
        late("9999*100+99-9995*100", 499);
        late("9999*100+100-9995*100", 500);
        late("9999*100+101-9995*100", 500);
        late("9999*100+9999-9995*100", 500);
    }

    @Says("I: each sum, difference, product above 10 to the 6 is that")
    static void aDifferenceAbove() {
        late("9999*100-(0-99)-9995*100", 499);
        late("9999*100-(0-100)-9995*100", 500);
        late("9999*100-(0-101)-9995*100", 500);
    }

    @Says("I: each sum, difference, product above 10 to the 6 is that")
    static void aProductAbove() {
        late("9999*100-9995*100", 400);
        late("1000*1000-9995*100", 500);
        late("1001*1000-9995*100", 500);
        late("9999*9999-9995*100", 500);
        late("9999*9999/2000", 500);
        late("(0-9999)*(0-9999)-9995*100", 500);
    }

    @Says("I: below -10 to the 6 likewise")
    static void aSumBelow() {
        late("(0-9999)*100+(0-99)+9995*100+999", 500);
        late("(0-9999)*100+(0-100)+9995*100+999", 499);
        late("(0-9999)*100+(0-101)+9995*100+999", 499);
    }

    @Says("I: below -10 to the 6 likewise")
    static void aDifferenceBelow() {
        late("0-9999*100-99+9995*100+999", 500);
        late("0-9999*100-100+9995*100+999", 499);
        late("0-9999*100-101+9995*100+999", 499);
    }

    @Says("I: below -10 to the 6 likewise")
    static void aProductBelow() {
        late("(0-9999)*100+9995*100+999", 599);
        late("(0-1000)*1000+9995*100+999", 499);
        late("(0-1001)*1000+9995*100+999", 499);
        late("9999*(0-9999)+9995*100+999", 499);
    }

    @Says("I: below -10 to the 6 likewise")
    static void aQuotientOfTheEdges() {
        late("1000*1000/(0-1)+9995*100+999", 499);
        late("(0-1000)*1000/(0-1)-9995*100", 500);
        late("1000*1000/(0-1000)+1100", 100);
    }

    // ---- NAMES

    @Says("I: NAMES: 1 to 6 letters")
    static void oneLetterIsAName() {
        for (int k = 0; k < 26; k++) {
            AndGuest x = Edges.told(HEAD + Edges.guest(Edges.name(k), 1, 1, 1, 1));
            due("letter(0, 0) of " + Edges.name(k), x.letter(0, 0), k + 1);
            due("letter(0, 1) of " + Edges.name(k), x.letter(0, 1), 0);
        }
    }

    @Says("I: NAMES: 1 to 6 letters")
    static void sixLettersAreAName() {
        AndGuest x = Edges.told(HEAD + Edges.guest("zzzzzz", 1, 1, 1, 1) + Edges.guest("zzzzza", 1, 1, 1, 1)
                + "pulls zzzzzz zzzzza;");
        due("the last letter", x.letter(0, 5), 26);
        due("the last letter", x.letter(1, 5), 1);
        due("far", x.far(0), 3);
    }

    @Says("I: NAMES: 1 to 6 letters")
    static void aNameHasNoDigit() {
        Edges.badBehind(HEAD, "guest 1a comes 1 joy 1 with 1 slight 1;", 1, 6);
        Edges.badBehind(HEAD, "guest a1 comes 1 joy 1 with 1 slight 1;", 1, 7);
        Edges.badBehind(HEAD, "guest ; comes 1 joy 1 with 1 slight 1;", 1, 6);
    }

    @Says("I: no OWN WORD")
    static void noOwnWordIsAName() {
        for (String own : OWN_WORDS) {
            Edges.badBehind(HEAD, Edges.guest(own, 1, 1, 1, 1), 1, 6);
        }
    }

    @Says("I: OWN WORDS: seats, bench, plate, lack, guest, comes, joy, with, slight, pulls, hears, late, maybe, soon,"
            + " more, weeks, size, number, how, or, and, not, all, min, max.")
    static void theQuestionsWordsAreNames() {
        for (String free : "first last often total most least".split(" ")) {
            Edges.good(HEAD + Edges.guest(free, 1, 1, 1, 1), 2);
        }
    }

    @Says("I: OWN WORDS: seats, bench, plate, lack, guest, comes, joy, with, slight, pulls, hears, late, maybe, soon,"
            + " more, weeks, size, number, how, or, and, not, all, min, max.")
    static void aLetterMoreOrLessIsAName() {
        for (String own : OWN_WORDS) {
            if (!own.equals("plate")) {
                Edges.good(HEAD + Edges.guest(own.substring(1), 1, 1, 1, 1), 2);
            }
            Edges.good(HEAD + Edges.guest(own.substring(0, own.length() - 1), 1, 1, 1, 1), 2);
            if (own.length() < 6) {
                Edges.good(HEAD + Edges.guest(own + "s", 1, 1, 1, 1), 2);
            }
        }
    }

    @Says("I: unlike ones (of all sorts)")
    static void likeNamesGoNot() {
        Edges.badBehind(TWO, Edges.guest("b", 1, 1, 1, 1), 3, 6);
        Edges.badBehind(HEAD + Edges.guest("abcdef", 1, 1, 1, 1), Edges.guest("abcdef", 1, 1, 1, 1), 3, 6);
    }

    @Says("I: unlike ones (of all sorts)")
    static void namesThatBeginAlikeGo() {
        Edges.good(HEAD + Edges.guest("a", 1, 1, 1, 1) + Edges.guest("aa", 1, 1, 1, 1) + Edges.guest("ab", 1, 1, 1, 1)
                + Edges.guest("ba", 1, 1, 1, 1) + "pulls aa a;pulls a aa;hears ab ba;", 8);
    }

    @Says("I: told ahead of where they are asked")
    static void aNameToldBehindGoesNot() {
        Edges.badBehind(HEAD, "pulls a b;" + Edges.guests(2, 1, 1, 1, 1), 3, 6);
        Edges.badBehind(HEAD + Edges.guest("a", 1, 1, 1, 1), "hears a b;" + Edges.guest("b", 1, 1, 1, 1), 3, 8);
    }

    @Says("I: told ahead of where they are asked")
    static void aNameJustAheadGoes() {
        Edges.good(HEAD + Edges.guest("a", 1, 1, 1, 1) + Edges.guest("b", 1, 1, 1, 1) + "pulls b a;"
                + Edges.guest("c", 1, 1, 1, 1) + "hears c b;", 6);
    }

    @Says("I: told ahead of where they are asked")
    static void aNameOfAnEarlierWeddingGoesNot() {
        AndGuest x = Edges.told(TWO);
        due("wedding()", Check.tell(x, HEAD + Edges.guest("a", 1, 1, 1, 1) + "pulls a b;"), NONE);
        due("fault(0)", x.fault(0), 3);
    }

    // ---- blanks

    @Says("I: Blanks (10, 32) are where one likes")
    static void blanksGoAtEachPlace() {
        Edges.good("\n seats\n4  bench\n\n0 plate 0\nlack 0 \n; \n", 1);
        Edges.good(HEAD + "late\n( 1 + weeks )\n* min\n(\n1 ,\n2 ) / 3 - 4 ; maybe 1\n;", 3);
    }

    @Says("I: Blanks (10, 32) are where one likes")
    static void noBlanksAreWantedBesideSigns() {
        Edges.good(HEAD + "late(1+weeks)*min(1,2)/3-4;maybe 1;", 3);
    }

    @Says("I: Blanks (10, 32) are where one likes")
    static void noOtherByteIsABlank() {
        for (int other = 0; other < 256; other++) {
            boolean blank = other == 10 || other == 32;
            String text = (char) other + HEAD;
            if (blank) {
                Edges.good(text, 1);
            } else {
                Edges.bad(text, 1, 0);
            }
            if (!blank && (other < '0' || other > '9')) {
                Edges.badBehind("seats 4", (char) other + "bench 0 plate 0 lack 0;", 1, 0);
            }
        }
    }

    @Says("I: Blanks (10, 32) are where one likes")
    static void noBlankIsInAWordOrANumber() {
        Edges.bad("sea ts 4 bench 0 plate 0 lack 0;", 1, 0);
        Edges.bad("seats 4 0 bench 0 plate 0 lack 0;", 1, 8);
        Edges.badBehind(HEAD, "guest a b comes 1 joy 1 with 1 slight 1;", 1, 8);
    }

    @Says("I: (words and numbers side by side need one)")
    static void wordsAndNumbersNeedABlank() {
        Edges.bad("seats4 bench 0 plate 0 lack 0;", 1, 5);
        Edges.bad("seats 4bench 0 plate 0 lack 0;", 1, 7);
        Edges.badBehind(HEAD, "maybe5;", 1, 5);
        Edges.badBehind(HEAD, "guest a comes 1joy 1 with 1 slight 1;", 1, 15);
    }

    // ---- FAULTS

    @Says("I: FAULTS, the first along the text")
    static void theFirstOfTwoFaults() {
        Edges.bad("seats 41 bench ? plate 100;", 2, 6);
        Edges.bad("seats ? bench 100;", 1, 6);
        Edges.badBehind(TWO, "pulls a a;late 1;late 1;", 3, 8);
        Edges.badBehind(TWO, "late 1;late 1;pulls a a;", 5, 7);
        Edges.badBehind(TWO, "late (((((((1;pulls a a;", 4, 11);
        Edges.badBehind(TWO, "pulls z abcdefg;", 3, 6);
    }

    @Says("I: 1 the first byte with which no such text goes on (words and numbers whole, at their first byte")
    static void aWrongWordAtItsFirstByte() {
        Edges.bad("seatz 4 bench 0 plate 0 lack 0;", 1, 0);
        Edges.bad("seatsx 4 bench 0 plate 0 lack 0;", 1, 0);
        Edges.bad("seat 4 bench 0 plate 0 lack 0;", 1, 0);
        Edges.bad("seats 4 bencH 0 plate 0 lack 0;", 1, 8);
        Edges.badBehind(HEAD, "guests a comes 1;", 1, 0);
        Edges.badBehind(HEAD, "abcdefghi;", 1, 0);
    }

    @Says("I: 1 the first byte with which no such text goes on (words and numbers whole, at their first byte")
    static void aWrongNumberAtItsFirstByte() {
        Edges.bad("44 4", 1, 0);
        Edges.bad("seats 4 12345 0", 1, 8);
        Edges.badBehind(HEAD, "123456;", 1, 0);
        Edges.badBehind(HEAD, "guest 123456 comes", 1, 6);
    }

    @Says("I: 1 the first byte with which no such text goes on (words and numbers whole, at their first byte")
    static void aWordCutOffAtTheEnd() {
        Edges.bad("seat", 1, 0);
        Edges.bad("seats 4 ben", 1, 8);
    }

    @Says("I: 1 the first byte with which no such text goes on")
    static void aWrongSignAtItself() {
        Edges.bad("seats (4", 1, 6);
        Edges.bad(HEAD + "}", 1, HEAD.length());
        Edges.badBehind(HEAD, "late 1 % 2;", 1, 7);
        Edges.badBehind(HEAD, "late 1 , 2;", 1, 7);
        Edges.bad(HEAD + (char) 0, 1, HEAD.length());
        Edges.bad(HEAD + (char) 255, 1, HEAD.length());
    }

    @Says("I: where a NAME is asked, an OWN WORD so")
    static void anOwnWordWhereANameIsAsked() {
        for (String own : OWN_WORDS) {
            Edges.badBehind(TWO, "pulls " + own + " a;", 1, 6);
            Edges.badBehind(TWO, "pulls a " + own + ";", 1, 8);
            Edges.badBehind(TWO, "hears a " + own + ";", 1, 8);
        }
    }

    @Says("I: a 7th letter at itself")
    static void aSeventhLetter() {
        Edges.badBehind(HEAD, "guest abcdefg comes 1 joy 1 with 1 slight 1;", 1, 12);
        Edges.badBehind(HEAD, "guest abcdefghijkl", 1, 12);
        Edges.badBehind(HEAD, "guest numbers comes", 1, 12);
        Edges.badBehind(TWO, "pulls abcdefg a;", 1, 12);
        Edges.badBehind(TWO, "hears a abcdefg;", 1, 14);
    }

    @Says("I: a 7th letter at itself")
    static void aSeventhLetterBehindANameThatIsThere() {
        Edges.badBehind(HEAD + Edges.guest("abcdef", 1, 1, 1, 1), "guest abcdefg", 1, 12);
        Edges.badBehind(HEAD + Edges.guest("abcdef", 1, 1, 1, 1) + Edges.guest("a", 1, 1, 1, 1), "pulls a abcdefg;", 1, 14);
    }

    @Says("I: where a number is asked, a 5th digit at itself (also where the number could not be)")
    static void aFifthDigit() {
        Edges.bad("seats 00004 bench", 1, 10);
        Edges.bad("seats 99999 bench", 1, 10);
        Edges.bad("seats 4 bench 1234567890123456789012345", 1, 18);
        Edges.badBehind(HEAD, "guest a comes 10000", 1, 18);
        Edges.badBehind(HEAD, "maybe 00000;", 1, 10);
        Edges.badBehind(HEAD, "soon 10000;", 1, 9);
        Edges.badBehind(HEAD, "more 10000;", 1, 9);
        Edges.badBehind(HEAD, "late 1*10000;", 1, 11);
    }

    @Says("I: at the text's length, if it ends too soon)")
    static void aTextThatEndsTooSoon() {
        String[] tokens = ("seats 4 bench 0 plate 0 lack 0 ; guest a comes 1 joy 1 with 1 slight 1 ; guest b comes 1 joy 1 "
                + "with 1 slight 1 ; pulls a b ; hears a b ; late min ( 1 , ( 2 ) ) * weeks ; maybe 1 ; soon 1 ; more 1 ;")
                .split(" ");
        StringBuilder text = new StringBuilder();
        int statements = 0;
        for (String token : tokens) {
            text.append(token);
            if (token.equals(";")) {
                statements++;
                Edges.good(text.toString(), statements);
                Edges.good(text + " \n", statements);
            } else {
                Edges.bad(text.toString(), 1, text.length());
                Edges.bad(text + " \n", 1, text.length() + 2);
            }
            text.append(' ');
        }
    }

    @Says("I: 2 a number that can't be, at it")
    static void aNumberThatCanNotBeAtItsFirstDigit() {
        Edges.bad("seats 0041 bench", 2, 6);
        Edges.bad("seats\n\n 41", 2, 8);
        Edges.bad("seats 41bench", 2, 6);
    }

    @Says("I: 3 a NAME to be given that is there already")
    static void aNameThatIsThereAlready() {
        Edges.badBehind(TWO, "guest a comes 11", 3, 6);
        Edges.badBehind(TWO, "guest  b", 3, 7);
        Edges.badBehind(HEAD + Edges.guests(7, 1, 1, 1, 1), "guest g", 3, 6);
    }

    @Says("I: one that is none of what is asked")
    static void aNameOfNobody() {
        Edges.badBehind(TWO, "pulls c a;", 3, 6);
        Edges.badBehind(TWO, "pulls a c;", 3, 8);
        Edges.badBehind(TWO, "hears c a;", 3, 6);
        Edges.badBehind(TWO, "hears a  c;", 3, 9);
        Edges.badBehind(TWO, "pulls c c;", 3, 6);
        Edges.badBehind(HEAD, "pulls a", 3, 6);
        Edges.badBehind(TWO, "pulls aa b;", 3, 6);
    }

    @Says("I: or can't be (the same one, told so already: at the second), at it")
    static void aNameThatCanNotBeAtTheSecond() {
        Edges.badBehind(TWO, "pulls a  a;", 3, 9);
        Edges.badBehind(TWO, "hears b\nb", 3, 8);
        Edges.badBehind(TWO, "pulls b a;pulls b a", 3, 18);
        Edges.badBehind(TWO, "hears b a;hears b a?", 3, 18);
    }

    @Says("I: 4 the 7th ( that is open at once, at it")
    static void sixOpenGo() {
        late("((((((5))))))", 5);
        late("min(9,max(1,min(8,max(2,min(7,max(3,4))))))", 4);
        late("(min((min((min(5,6)),7)),8))", 5);
        late("1+1*max(0,".repeat(6) + "1+1*1" + ")".repeat(6), 8);
    }

    @Says("I: 4 the 7th ( that is open at once, at it")
    static void aSeventhOpenGoesNot() {
        Edges.badBehind(HEAD, "late (((((((5)))))));", 4, 11);
        Edges.badBehind(HEAD, "late ((((((min(5,6)))))));", 4, 14);
        Edges.badBehind(HEAD, "late ((((((max (5,6)))))));", 4, 15);
        Edges.badBehind(HEAD, "late min(1,min(1,min(1,min(1,min(1,min(1,(2)))))));", 4, 41);
        Edges.badBehind(HEAD, "late min((1),min((1),min((1),min((1),min((1),min((1),2))))));", 4, 49);
    }

    @Says("I: 4 the 7th ( that is open at once, at it")
    static void closedOnesAreNotOpen() {
        late("(1)+(1)+(1)+(1)+(1)+(1)+(1)+(1)", 8);
        late("((((((1))))))+((((((2))))))", 3);
        late("max((((((1))))),(((((2))))))", 2);
    }

    @Says("I: 5 one too many of a kind (a second late, too)")
    static void oneTooManyAtItsFirstByte() {
        Edges.badBehind(EIGHT, "\n guest i comes 11", 5, 2);
        Edges.badBehind(EIGHT, "guest", 5, 0);
        Edges.badBehind(EIGHT, "guest a", 5, 0);
        Edges.badBehind(EIGHT + Edges.pairs("pulls", 16), " pulls", 5, 1);
        Edges.badBehind(EIGHT + Edges.pairs("pulls", 16), "pulls a b", 5, 0);
        Edges.badBehind(EIGHT + Edges.pairs("hears", 24), " hears ?", 5, 1);
        Edges.badBehind(HEAD + "late 0;", " late", 5, 1);
        Edges.badBehind(HEAD + "late 0;", "late (((((((1;", 5, 0);
    }

    @Says("I: 5 one too many of a kind (a second late, too)")
    static void otherKindsStillGoBehindTheMost() {
        Edges.good(EIGHT + Edges.pairs("pulls", 16) + Edges.pairs("hears", 24) + "late 1;maybe 1;", 51);
        Edges.badBehind(EIGHT, "guests i", 1, 0);
    }

    @Says("I: a 61st STATEMENT (whatever stands there), at its first byte.")
    static void aSixtyFirstStatement() {
        String sixty = HEAD + "more 1;".repeat(59);
        for (String other : new String[] {"more 1;", "seats", "guest", "x", "7", ";", "?", "12345", "abcdefgh",
            String.valueOf((char) 255), String.valueOf((char) 0)}) {
            Edges.badBehind(sixty, other, 5, 0);
            Edges.badBehind(sixty, " \n" + other, 5, 2);
        }
    }

    @Says("I: a 61st STATEMENT (whatever stands there), at its first byte.")
    static void theSixtiethMayBeWrongInItsOwnWay() {
        String many = HEAD + "more 1;".repeat(58);
        Edges.badBehind(many, "x;", 1, 0);
        Edges.badBehind(many, "more 10;", 2, 5);
    }
}

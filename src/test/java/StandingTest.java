/** Terms, II: each edge that a sentence about how things stand, OFFENCE, WORTH and ACTS names. */
public final class StandingTest {
    private static final int NONE = Edges.NONE;
    private static final long NOTHING = Edges.NOTHING;
    private static final String HEAD = Edges.HEAD;
    private static final String TWO = HEAD + Edges.guests(2, 5, 7, 1, 4);
    private static final String EIGHT = HEAD + Edges.guests(8, 5, 1, 0, 1);

    public static void main(String[] args) {
        Edges.run(StandingTest.class);
    }

    private static void due(String what, long got, long want) {
        Edges.due(what, got, want);
    }

    private static void due(String what, boolean got, boolean want) {
        Edges.due(what, got, want);
    }

    /** All of the set asked in WEEK 0, and answered so (1 is not at all). */
    private static AndGuest asked(String text, int set, int... how) {
        AndGuest x = Edges.told(text);
        due("send", x.send(set), Integer.bitCount(set));
        for (int g = 0; g < how.length; g++) {
            if (how[g] > 1) {
                due("answer " + g, x.answer(g, how[g]), true);
            }
        }
        return x;
    }

    // ---- at first; how a GUEST is

    @Says("II: It is WEEK 0 at first, no card has gone.")
    static void atFirst() {
        AndGuest x = Edges.told(TWO);
        due("WEEK", x.has(3), 0);
        due("asked", x.has(4), 0);
        for (int g = 0; g < 2; g++) {
            due("how", x.guest(g, 4), 0);
            due("WEEKS behind", x.guest(g, 7), NONE);
        }
        due("image", x.image(), 11);
        due("no first card", x.octet(2) * 256 + x.octet(3), 65535);
    }

    @Says("II: It is WEEK 0 at first, no card has gone.")
    static void theFirstCardIsNoLateOne() {
        AndGuest x = Edges.told(TWO + "late 9;");
        Edges.pass(x, 200);
        due("would", x.would(3), 700);
        due("send", x.send(3), 2);
        due("offence", x.offence(), 0);
        due("WEEKS behind", x.guest(1, 7), 0);
    }

    @Says("II: A GUEST is 0 not asked, 1 asked, waiting, 2 coming, 3 not coming, 4 maybe")
    static void eachHow() {
        AndGuest x = asked(HEAD + Edges.guests(5, 5, 1, 0, 1), 30, 1, 1, 2, 3, 4);
        for (int g = 0; g < 5; g++) {
            due("how " + g, x.guest(g, 4), g);
            due("has " + (4 + g), x.has(4 + g), g == 0 ? 4 : 1);
        }
    }

    @Says("II: he COMES by ten of ten, if he said so, none, if not, by maybe if maybe, as told, if he waits.")
    static void howLikelyEachComes() {
        AndGuest x = asked(HEAD + Edges.guests(5, 7, 1, 0, 1) + "maybe 3;", 30, 1, 1, 2, 3, 4);
        int[] tenths = {0, 7, 10, 0, 3};
        for (int g = 0; g < 5; g++) {
            due("COMES " + g, x.guest(g, 5), tenths[g]);
        }
        due("mean", x.mean(), 200);
    }

    @Says("II: he COMES by ten of ten, if he said so, none, if not, by maybe if maybe, as told, if he waits.")
    static void whatHeSaidCountsThoughHeIsToldOtherwise() {
        AndGuest x = asked(HEAD + Edges.guest("a", 0, 1, 0, 0) + Edges.guest("b", 10, 1, 0, 0) + "maybe 10;", 3, 2, 3);
        due("comes, though by none", x.guest(0, 5), 10);
        due("comes not, though by ten", x.guest(1, 5), 0);
        due("answer", x.answer(0, 4), true);
        due("maybe by ten", x.guest(0, 5), 10);
        due("answer", x.answer(1, 4), true);
        due("mean", x.mean(), 200);
    }

    @Says("II: SIZE is one and with how many.")
    static void leastAndMostSize() {
        AndGuest x = asked(HEAD + Edges.guest("a", 10, 1, 0, 0) + Edges.guest("b", 10, 1, 3, 0), 3);
        due("size 1", x.guest(0, 2), 1);
        due("size 4", x.guest(1, 2), 4);
        due("mean", x.mean(), 500);
    }

    // ---- WHOLE, FAR

    @Says("II: A SET of GUESTS is WHOLE, if whom any of it pulls is in it, or was asked.")
    static void noneIsWhole() {
        due("would(0)", Edges.told(TWO + "pulls a b;pulls b a;").would(0), 0);
    }

    @Says("II: A SET of GUESTS is WHOLE, if whom any of it pulls is in it, or was asked.")
    static void whomItPullsIsInIt() {
        AndGuest x = Edges.told(HEAD + Edges.guests(3, 5, 2, 0, 0) + "pulls a c;pulls b c;");
        int[] whole = {0, 4, 5, 6, 7};
        for (int set : whole) {
            due("whole " + set, x.would(set), 100L * Integer.bitCount(set));
        }
        for (int set : new int[] {1, 2, 3}) {
            due("not whole " + set, x.would(set), NOTHING);
        }
    }

    @Says("II: A SET of GUESTS is WHOLE, if whom any of it pulls is in it, or was asked.")
    static void whomItPullsWasAskedHoweverHeAnswered() {
        for (int how = 1; how <= 4; how++) {
            AndGuest x = asked(TWO + "pulls a b;", 2, 1, how);
            due("b is " + how, x.send(1), 1);
        }
    }

    @Says("II: A SET of GUESTS is WHOLE, if whom any of it pulls is in it, or was asked.")
    static void eachOfManyPullsCounts() {
        AndGuest x = Edges.told(HEAD + Edges.guests(4, 5, 2, 0, 0) + "pulls a b;pulls a c;pulls a d;");
        due("one wants", x.send(7), NONE);
        due("another wants", x.send(13), NONE);
        due("b, c go", x.send(6), 2);
        due("d wants still", x.send(1), NONE);
        due("with d", x.send(9), 2);
    }

    @Says("II: A SET of GUESTS is WHOLE, if whom any of it pulls is in it, or was asked.")
    static void aSetIsWholeAllAlongAChain() {
        AndGuest x = Edges.told(HEAD + Edges.guests(3, 5, 2, 0, 0) + "pulls a b;pulls b c;");
        due("a, b want c", x.would(3), NOTHING);
        due("a, c want b", x.would(5), NOTHING);
        due("all three", x.would(7), 300);
        due("b asked first, with c", x.send(6), 2);
        due("a then", x.send(1), 1);
    }

    @Says("II: A SET of GUESTS is WHOLE, if whom any of it pulls is in it, or was asked.")
    static void allInARoundAreWholeTogetherAlone() {
        StringBuilder round = new StringBuilder(EIGHT);
        for (int g = 0; g < 8; g++) {
            round.append("pulls ").append(Edges.name(g)).append(' ').append(Edges.name((g + 1) % 8)).append(';');
        }
        AndGuest x = Edges.told(round.toString());
        for (int set = 1; set < 255; set++) {
            due("not whole " + set, x.would(set), NOTHING);
        }
        due("all", x.send(255), 8);
    }

    @Says("II: The FAR set of a GUEST has him")
    static void farHasHimAlone() {
        AndGuest x = Edges.told(EIGHT);
        for (int g = 0; g < 8; g++) {
            due("far " + g, x.far(g), 1 << g);
        }
    }

    @Says("II: whom he pulls, whom these pull, and so on.")
    static void farAlongTheLongestChain() {
        StringBuilder up = new StringBuilder(EIGHT);
        StringBuilder down = new StringBuilder(EIGHT);
        for (int g = 0; g < 7; g++) {
            up.append("pulls ").append(Edges.name(g)).append(' ').append(Edges.name(g + 1)).append(';');
            down.append("pulls ").append(Edges.name(g + 1)).append(' ').append(Edges.name(g)).append(';');
        }
        AndGuest x = Edges.told(up.toString());
        AndGuest y = Edges.told(down.toString());
        for (int g = 0; g < 8; g++) {
            due("far up " + g, x.far(g), 255 & -(1 << g));
            due("far down " + g, y.far(g), (2 << g) - 1);
        }
    }

    @Says("II: whom he pulls, whom these pull, and so on.")
    static void farAlongAChainHereAndThere() {
        AndGuest x = Edges.told(EIGHT + "pulls d h;pulls h a;pulls a g;pulls g b;pulls b f;pulls f c;pulls c e;");
        due("far of the first", x.far(3), 255);
        due("far of the last", x.far(4), 16);
        due("far in the middle", x.far(6), 64 + 2 + 32 + 4 + 16);
    }

    @Says("II: whom he pulls, whom these pull, and so on.")
    static void farRound() {
        AndGuest x = Edges.told(HEAD + Edges.guests(4, 5, 1, 0, 1) + "pulls a b;pulls b a;pulls c a;");
        int[] far = {3, 3, 7, 8};
        for (int g = 0; g < 4; g++) {
            due("far " + g, x.far(g), far[g]);
        }
    }

    @Says("II: The FAR set of a GUEST has him")
    static void farIsTheSameWhoeverWasAsked() {
        AndGuest x = asked(TWO + "pulls a b;", 3, 3, 3);
        due("far", x.far(0), 3);
    }

    // ---- OFFENCE

    @Says("II: OFFENCE of a GUEST not asked is his slight, if any of whom he hears is asked, else 0")
    static void whoHearsOfNobodyIsNotOffended() {
        AndGuest x = asked(TWO, 1);
        due("offence", x.guest(1, 6), 0);
    }

    @Says("II: OFFENCE of a GUEST not asked is his slight, if any of whom he hears is asked, else 0")
    static void whoHearsOfNoneAskedIsNotOffended() {
        AndGuest x = asked(HEAD + Edges.guests(3, 5, 7, 1, 4) + "hears a b;", 4);
        due("offence", x.guest(0, 6), 0);
    }

    @Says("II: OFFENCE of a GUEST not asked is his slight, if any of whom he hears is asked, else 0")
    static void whoHearsOfOneOfManyIsOffendedOnce() {
        String text = HEAD + Edges.guests(4, 5, 7, 1, 4) + "hears a b;hears a c;hears a d;";
        for (int set = 2; set < 16; set += 2) {
            due("offence by " + set, asked(text, set).guest(0, 6), 4);
        }
    }

    @Says("II: OFFENCE of a GUEST not asked is his slight, if any of whom he hears is asked, else 0")
    static void whoIsAskedHoweverHeAnsweredIsHeardOf() {
        for (int how = 1; how <= 4; how++) {
            due("offence", asked(TWO + "hears a b;", 2, 1, how).guest(0, 6), 4);
        }
    }

    @Says("II: OFFENCE of a GUEST not asked is his slight, if any of whom he hears is asked, else 0")
    static void leastAndMostSlight() {
        String text = HEAD + Edges.guest("a", 1, 1, 0, 0) + Edges.guest("b", 1, 1, 0, 99) + Edges.guest("c", 1, 1, 0, 1)
                + "hears a c;hears b c;";
        AndGuest x = asked(text, 4);
        due("slight 0", x.guest(0, 6), 0);
        due("slight 99", x.guest(1, 6), 99);
    }

    @Says("II: OFFENCE of a GUEST not asked is his slight, if any of whom he hears is asked, else 0")
    static void hearingGoesNoFurther() {
        AndGuest x = asked(HEAD + Edges.guests(3, 5, 7, 1, 4) + "hears a b;hears b c;", 4);
        due("b hears", x.guest(1, 6), 4);
        due("a hears not of c", x.guest(0, 6), 0);
    }

    private static AndGuest late(String sum, int weeks) {
        AndGuest x = asked(TWO + "late " + sum + ";", 1);
        Edges.pass(x, weeks);
        due("send", x.send(2), 1);
        return x;
    }

    @Says("II: of one asked the SUM of late, 0 .. 999 (below is 0, above 999; 0 without)")
    static void lateIsHeldIn0And999() {
        String[] sums = {"0-9999*9999", "0-1", "0", "1", "998", "999", "1000", "9999*9999"};
        int[] want = {0, 0, 0, 1, 998, 999, 999, 999};
        for (int k = 0; k < sums.length; k++) {
            due("late " + sums[k], late(sums[k], 1).guest(1, 6), want[k]);
        }
    }

    @Says("II: of one asked the SUM of late, 0 .. 999 (below is 0, above 999; 0 without)")
    static void withoutLateWhoIsAskedIsNotOffended() {
        AndGuest x = asked(TWO + "hears a b;hears b a;", 1);
        due("weeks", x.weeks(5), true);
        due("send", x.send(2), 1);
        due("offence", x.offence(), 0);
    }

    @Says("II: if his card went behind the first one")
    static void aCardInTheWeekOfTheFirst() {
        AndGuest x = late("9", 0);
        due("the first", x.guest(0, 6), 0);
        due("another lot, the same WEEK", x.guest(1, 6), 0);
        due("WEEKS behind", x.guest(1, 7), 0);
    }

    @Says("II: if his card went behind the first one")
    static void aCardAWeekBehindTheFirst() {
        AndGuest x = late("9", 1);
        due("the first", x.guest(0, 6), 0);
        due("a WEEK behind", x.guest(1, 6), 9);
        due("WEEKS behind", x.guest(1, 7), 1);
    }

    @Says("II: if his card went behind the first one")
    static void aCardAsFarBehindAsCanBe() {
        AndGuest x = late("weeks", 999);
        due("999 WEEKS behind", x.guest(1, 6), 999);
        due("WEEKS behind", x.guest(1, 7), 999);
    }

    @Says("II: if his card went behind the first one")
    static void weeksThatGoByBehindACardOffendNot() {
        AndGuest x = late("weeks", 2);
        Edges.pass(x, 50);
        due("as it went", x.guest(1, 6), 2);
        for (int how = 2; how <= 4; how++) {
            due("answer", x.answer(1, how), true);
            due("whatever he answers", x.guest(1, 6), 2);
        }
    }

    @Says("II: if his card went behind the first one")
    static void whoIsLateIsNotSlightedToo() {
        AndGuest x = asked(TWO + "hears b a;late 1;", 1);
        due("slighted", x.offence(), 4);
        due("weeks", x.weeks(1), true);
        due("late did it go now", x.would(2), 350 + 350 - 100);
        due("send", x.send(2), 1);
        due("late", x.offence(), 1);
    }

    @Says("II: 0 of others.")
    static void withNoCardGoneNoneIsOffended() {
        AndGuest x = Edges.told(TWO + "hears a b;hears b a;late 9;");
        due("weeks", x.weeks(9), true);
        due("offence", x.offence(), 0);
    }

    // ---- WORTH

    @Says("II: Of GUESTS each COMES or not for himself.")
    static void eachComesForHimself() {
        AndGuest x = asked(HEAD + Edges.guests(2, 5, 7, 0, 4), 3);
        due("none", x.odds(0), 250000);
        due("one", x.odds(1), 500000);
        due("both", x.odds(2), 250000);
    }

    @Says("II: WORTH is the MEAN joy of GUESTS that come")
    static void joyCountsOnceWhateverTheSize() {
        AndGuest x = asked("seats 40 bench 0 plate 0 lack 0;" + Edges.guest("a", 5, 7, 3, 0), 1);
        due("worth", x.worth(), 350);
        due("answer", x.answer(0, 2), true);
        due("who comes", x.worth(), 700);
        due("answer", x.answer(0, 3), true);
        due("who comes not", x.worth(), 0);
        due("answer", x.answer(0, 4), true);
        due("maybe", x.worth(), 350);
    }

    @Says("II: WORTH is the MEAN joy of GUESTS that come")
    static void mostWorth() {
        AndGuest x = asked("seats 32 bench 99 plate 0 lack 0;" + Edges.guests(8, 10, 99, 3, 0), 255);
        due("worth", x.worth(), 79200);
    }

    @Says("II: less all OFFENCE")
    static void leastWorth() {
        AndGuest x = asked("seats 0 bench 99 plate 0 lack 0;" + Edges.guests(8, 10, 0, 3, 0) + "late 999;", 1);
        due("weeks", x.weeks(1), true);
        due("send", x.send(254), 7);
        due("offence", x.offence(), 6993);
        due("worth", x.worth(), -99 * 3200 - 699300);
    }

    @Says("II: less all OFFENCE")
    static void offenceOfTheAskedAndOfOthers() {
        AndGuest x = asked(HEAD + Edges.guests(3, 0, 0, 0, 4) + "hears c a;late 9;", 1);
        due("weeks", x.weeks(1), true);
        due("send", x.send(2), 1);
        due("worth", x.worth(), -900 - 400);
    }

    @Says("II: less the MEAN of bench for each that comes (by SIZE) above seats")
    static void asManyAsSeatsCostNothing() {
        String guests = Edges.guests(2, 10, 0, 1, 0);
        due("one seat more", asked("seats 5 bench 9 plate 0 lack 0;" + guests, 3).worth(), 0);
        due("just so many", asked("seats 4 bench 9 plate 0 lack 0;" + guests, 3).worth(), 0);
        due("one seat too few", asked("seats 3 bench 9 plate 0 lack 0;" + guests, 3).worth(), -900);
        due("no seat", asked("seats 0 bench 9 plate 0 lack 0;" + guests, 3).worth(), -3600);
    }

    @Says("II: less the MEAN of bench for each that comes (by SIZE) above seats")
    static void itIsTheMeanOfWhatIsAboveNotWhatTheMeanIsAbove() {
        // On the mean one comes, and yet both may.
        AndGuest x = asked("seats 1 bench 9 plate 0 lack 0;" + Edges.guests(2, 5, 0, 0, 0), 3);
        due("mean", x.mean(), 100);
        due("worth", x.worth(), -225);
    }

    @Says("II: in hundredths (floor, of all together)")
    static void worthBelow0IsFloored() {
        // Three by a tenth each: two or three of them come by 0.028, above one come 0.029.
        AndGuest x = asked("seats 1 bench 1 plate 0 lack 0;" + Edges.guests(3, 1, 0, 0, 0), 7);
        due("-0.029", x.worth(), -3);
    }

    @Says("II: in hundredths (floor, of all together)")
    static void worthIsFlooredOnceForAll() {
        AndGuest x = asked("seats 1 bench 1 plate 0 lack 0;" + Edges.guests(3, 1, 1, 0, 0), 7);
        due("0.3 - 0.029", x.worth(), 27);
        AndGuest y = asked("seats 2 bench 1 plate 0 lack 0;" + Edges.guests(3, 1, 0, 0, 0), 7);
        due("-0.001", y.worth(), -1);
        AndGuest z = asked("seats 2 bench 10 plate 0 lack 0;" + Edges.guests(3, 1, 0, 0, 0), 7);
        due("-0.01", z.worth(), -1);
    }

    // ---- ACTS

    @Says("II: cards go to a WHOLE SET of GUESTS not asked, one at least")
    static void noCardIsNoAct() {
        AndGuest x = Edges.told(TWO);
        due("send", x.send(0), NONE);
        due("acts", x.has(10), 0);
        due("one", x.send(1), 1);
        due("acts", x.has(10), 1);
    }

    @Says("II: cards go to a WHOLE SET of GUESTS not asked, one at least")
    static void noGuestIsAskedTwice() {
        for (int how = 1; how <= 4; how++) {
            AndGuest x = asked(TWO, 1, how);
            due("again", x.send(1), NONE);
            due("again, with another", x.send(3), NONE);
            due("the other", x.send(2), 1);
        }
    }

    @Says("II: a GUEST asked answers (also otherwise than ahead)")
    static void anAnswerAfterEachOther() {
        for (int from = 1; from <= 4; from++) {
            for (int to = 2; to <= 4; to++) {
                AndGuest x = asked(TWO, 1, from);
                due("from " + from + " to " + to, x.answer(0, to), from != to);
                due("how", x.guest(0, 4), to);
            }
        }
    }

    private static AndGuest drawing(int seed, int soon, int... comes) {
        StringBuilder text = new StringBuilder(HEAD);
        for (int g = 0; g < comes.length; g++) {
            text.append(Edges.guest(Edges.name(g), comes[g], 1, 0, 0));
        }
        AndGuest x = asked(text + "soon " + soon + ";", (1 << comes.length) - 1);
        due("seed", x.seed(seed), true);
        return x;
    }

    // The DRAWS of 100 and of 10 that follow: by the seed 0 92 and 1, by 1 18 and 9, by 594 0 and 0, by 551 99 and 9.
    private static final int[] SEEDS = {0, 1, 594, 551};
    private static final int[] FIRST_DRAWS = {92, 18, 0, 99};
    private static final int[] SECOND_DRAWS = {1, 9, 0, 9};

    @Says("II: a DRAW of 100: below soon he answers")
    static void aDrawThatIsSoonIsNoAnswer() {
        for (int k = 0; k < SEEDS.length; k++) {
            AndGuest x = drawing(SEEDS[k], FIRST_DRAWS[k], 5);
            due("answered", x.chance(1), 0);
            due("waits", x.guest(0, 4), 1);
        }
    }

    @Says("II: a DRAW of 100: below soon he answers")
    static void aDrawJustBelowSoonIsAnAnswer() {
        for (int k = 0; k < SEEDS.length; k++) {
            AndGuest x = drawing(SEEDS[k], FIRST_DRAWS[k] + 1, 5);
            due("answered", x.chance(1), 1);
            due("waits no more", x.has(5), 0);
        }
    }

    @Says("II: a DRAW of 10: below how likely he comes he is coming, else not")
    static void aDrawThatIsHowLikelyHeComesIsNot() {
        for (int k = 0; k < SEEDS.length; k++) {
            AndGuest x = drawing(SEEDS[k], 100, SECOND_DRAWS[k]);
            due("answered", x.chance(1), 1);
            due("not coming", x.guest(0, 4), 3);
        }
    }

    @Says("II: a DRAW of 10: below how likely he comes he is coming, else not")
    static void aDrawJustBelowHowLikelyHeComesIsComing() {
        for (int k = 0; k < SEEDS.length; k++) {
            AndGuest x = drawing(SEEDS[k], 100, SECOND_DRAWS[k] + 1);
            due("answered", x.chance(1), 1);
            due("coming", x.guest(0, 4), 2);
        }
    }

    @Says("II: in each, for each GUEST that waits, by numbers")
    static void theFirstDrawsAheadOfTheSecond() {
        // By the seed 0: 92, then 21 and, of ten, 1 (71 of 100).
        AndGuest x = drawing(0, 50, 5, 2);
        due("answered", x.chance(1), 1);
        due("the first waits", x.guest(0, 4), 1);
        due("the second is coming", x.guest(1, 4), 2);
    }

    @Says("II: in each, for each GUEST that waits, by numbers")
    static void noDrawForOthers() {
        // Did another draw ahead of b (92), b would have 21 and answer.
        for (int how = 2; how <= 4; how++) {
            AndGuest x = drawing(0, 92, 5, 5);
            due("answer", x.answer(0, how), true);
            due("b has the first draw", x.chance(1), 0);
            due("a stays", x.guest(0, 4), how);
        }
        AndGuest y = Edges.told(TWO + "soon 92;");
        due("send", y.send(2), 1);
        due("seed", y.seed(0), true);
        due("nor for one not asked", y.chance(1), 0);
    }

    @Says("II: in each, for each GUEST that waits, by numbers")
    static void whoAnsweredDrawsNoMore() {
        // By the seed 0: a 92; b 21, 1; then a alone 20, 5.
        AndGuest x = drawing(0, 50, 6, 2);
        due("answered in two WEEKS", x.chance(2), 2);
        due("a is coming", x.guest(0, 4), 2);
        due("b is coming", x.guest(1, 4), 2);
        AndGuest y = drawing(0, 50, 5, 1);
        due("answered in two WEEKS", y.chance(2), 2);
        due("a is not", y.guest(0, 4), 3);
        due("b is not", y.guest(1, 4), 3);
    }

    @Says("II: the WEEK is one more; a WEEK alone. (999 at most.)")
    static void theWeekIsOneMore() {
        AndGuest x = drawing(0, 50, 5);
        due("chance", x.chance(1), 0);
        due("WEEK", x.has(3), 1);
        due("weeks", x.weeks(1), true);
        due("WEEK", x.has(3), 2);
    }

    @Says("II: the WEEK is one more; a WEEK alone. (999 at most.)")
    static void inAWeekAloneNobodyAnswers() {
        AndGuest x = drawing(0, 100, 5, 5);
        due("weeks", x.weeks(99), true);
        due("all wait", x.has(5), 2);
        due("and no DRAW was used", x.chance(1), 2);
        // 92, 1, 71, 0
        due("a is not", x.guest(0, 4), 2);
        due("b is coming", x.guest(1, 4), 2);
    }

    @Says("II: (999 at most.)")
    static void week999IsTheLast() {
        AndGuest x = Edges.told(TWO);
        Edges.pass(x, 998);
        due("two more", x.weeks(2), false);
        due("two more by the seed", x.chance(2), NONE);
        due("one more", x.weeks(1), true);
        due("WEEK", x.has(3), 999);
        due("one more", x.weeks(1), false);
        due("one more by the seed", x.chance(1), NONE);
        due("WEEK", x.has(3), 999);
    }

    @Says("II: (999 at most.)")
    static void week999BySeed() {
        AndGuest x = Edges.told(TWO);
        Edges.pass(x, 998);
        due("one by the seed", x.chance(1), 0);
        due("WEEK", x.has(3), 999);
    }

    @Says("II: The last 20 can be undone.")
    static void twentyActsCanBeUndone() {
        AndGuest x = Edges.told(TWO);
        for (int k = 1; k <= 20; k++) {
            due("weeks", x.weeks(1), true);
            due("acts", x.has(10), k);
        }
        for (int k = 19; k >= 0; k--) {
            due("undo", x.undo(), true);
            due("WEEK", x.has(3), k);
            due("acts", x.has(10), k);
        }
        due("no more", x.undo(), false);
    }

    @Says("II: The last 20 can be undone.")
    static void aTwentyFirstActLosesTheFirst() {
        AndGuest x = Edges.told(TWO);
        due("send", x.send(3), 2);
        for (int k = 1; k <= 20; k++) {
            due("weeks", x.weeks(1), true);
        }
        due("acts", x.has(10), 20);
        for (int k = 0; k < 20; k++) {
            due("undo", x.undo(), true);
        }
        due("no more", x.undo(), false);
        due("the cards stay", x.has(4), 2);
        due("WEEK", x.has(3), 0);
    }

    @Says("II: The last 20 can be undone.")
    static void actsBehindUndoneOnesAreCountedAnew() {
        AndGuest x = Edges.told(TWO);
        for (int k = 0; k < 25; k++) {
            due("weeks", x.weeks(1), true);
        }
        for (int k = 0; k < 5; k++) {
            due("undo", x.undo(), true);
        }
        due("acts", x.has(10), 15);
        for (int k = 0; k < 6; k++) {
            due("weeks", x.weeks(2), true);
        }
        due("acts", x.has(10), 20);
        due("WEEK", x.has(3), 32);
        for (int k = 0; k < 20; k++) {
            due("undo", x.undo(), true);
        }
        due("WEEK", x.has(3), 6);
        due("no more", x.undo(), false);
    }

    @Says("II: ACTS: cards go")
    static void eachKindOfActCounts() {
        AndGuest x = Edges.told(TWO);
        due("send", x.send(1), 1);
        due("answer", x.answer(0, 4), true);
        due("weeks", x.weeks(3), true);
        due("chance", x.chance(4), 0);
        due("acts", x.has(10), 4);
        due("undo", x.undo(), true);
        due("WEEK", x.has(3), 3);
        due("undo", x.undo(), true);
        due("WEEK", x.has(3), 0);
        due("undo", x.undo(), true);
        due("waits", x.guest(0, 4), 1);
        due("undo", x.undo(), true);
        due("not asked", x.guest(0, 4), 0);
    }

    // ---- DRAWS

    @Says("II: A DRAW of m: x (the seed) becomes (1103515245 x + 12345) mod 2 to the 31; floor(x / 64) mod m.")
    static void drawsAsTold() {
        for (int seed : new int[] {0, 1, 63, 64, 12345, 1 << 30, (1 << 30) - 1, Integer.MAX_VALUE - 1, Integer.MAX_VALUE}) {
            drawsBy(seed, 37);
            drawsBy(seed, 100);
        }
    }

    private static void drawsBy(int seed, int soon) {
        AndGuest x = drawing(seed, soon, 0, 1, 3, 5, 6, 8, 9, 10);
        int[] comes = {0, 1, 3, 5, 6, 8, 9, 10};
        int[] how = {1, 1, 1, 1, 1, 1, 1, 1};
        long next = seed;
        for (int week = 0; week < 12; week++) {
            int answered = 0;
            for (int g = 0; g < 8; g++) {
                if (how[g] == 1) {
                    next = Edges.next(next);
                    if (Edges.drawOf(next, 100) < soon) {
                        next = Edges.next(next);
                        how[g] = Edges.drawOf(next, 10) < comes[g] ? 2 : 3;
                        answered++;
                    }
                }
            }
            due("seed " + seed + " week " + week, x.chance(1), answered);
            for (int g = 0; g < 8; g++) {
                due("seed " + seed + " week " + week + " guest " + g, x.guest(g, 4), how[g]);
            }
        }
    }

    @Says("II: mod 2 to the 31; floor(x / 64) mod m.")
    static void aDrawByTheGreatestSeed() {
        // 1103515245 (2^31 - 1) + 12345 is 1043980748 mod 2^31; over 64 that is 16312199; then 288979989, 4515312.
        AndGuest x = drawing(Integer.MAX_VALUE, 99, 5);
        due("99 is not below 99", x.chance(1), 0);
        AndGuest y = drawing(Integer.MAX_VALUE, 100, 2);
        due("99 is below 100", y.chance(1), 1);
        due("2 is not below 2", y.guest(0, 4), 3);
        AndGuest z = drawing(Integer.MAX_VALUE, 100, 3);
        due("99 is below 100", z.chance(1), 1);
        due("2 is below 3", z.guest(0, 4), 2);
    }
}

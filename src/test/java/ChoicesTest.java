/** Terms, III: each edge that a sentence about whom to ask, plates, ringing, the YEAR and who is SEEN names. */
public final class ChoicesTest {
    private static final int NONE = Edges.NONE;
    private static final long NOTHING = Edges.NOTHING;
    private static final String HEAD = Edges.HEAD;
    /** The third has as much joy as the two others, and takes as many of the two seats. */
    private static final String THREE = "seats 2 bench 99 plate 0 lack 0;" + Edges.guest("a", 10, 5, 0, 0)
            + Edges.guest("b", 10, 5, 0, 0) + Edges.guest("c", 10, 10, 1, 0);

    public static void main(String[] args) {
        Edges.run(ChoicesTest.class);
    }

    private static void due(String what, long got, long want) {
        Edges.due(what, got, want);
    }

    private static void due(String what, boolean got, boolean want) {
        Edges.due(what, got, want);
    }

    private static AndGuest sent(String text, int set) {
        AndGuest x = Edges.told(text);
        due("send", x.send(set), Integer.bitCount(set));
        return x;
    }

    // ---- BEST

    @Says("III: BEST to ask now is a WHOLE SET of GUESTS not asked (none, too)")
    static void bestMayBeNone() {
        due("no guests", Edges.told(HEAD).best(), 0);
        due("no joy", Edges.told(HEAD + Edges.guests(3, 10, 0, 0, 0)).best(), 0);
        due("a dear one", Edges.told("seats 0 bench 9 plate 0 lack 0;" + Edges.guest("a", 10, 8, 0, 0)).best(), 0);
    }

    @Says("III: BEST to ask now is a WHOLE SET of GUESTS not asked (none, too)")
    static void bestMayBeAll() {
        due("all eight", Edges.told("seats 40 bench 0 plate 0 lack 0;" + Edges.guests(8, 1, 1, 3, 0)).best(), 255);
    }

    @Says("III: BEST to ask now is a WHOLE SET of GUESTS not asked (none, too)")
    static void bestIsOfGuestsNotAsked() {
        AndGuest x = sent(HEAD + Edges.guests(3, 5, 9, 0, 0), 2);
        due("the others", x.best(), 5);
        due("send", x.send(5), 2);
        due("none is left", x.best(), 0);
    }

    @Says("III: BEST to ask now is a WHOLE SET of GUESTS not asked (none, too)")
    static void bestIsWhole() {
        String pulled = "seats 9 bench 0 plate 0 lack 0;" + Edges.guest("a", 10, 9, 0, 0) + Edges.guest("b", 10, 0, 0, 0)
                + "pulls a b;";
        due("with whom he pulls", Edges.told(pulled).best(), 3);
        AndGuest x = sent(pulled, 2);
        due("who was asked", x.best(), 1);
        String dear = "seats 1 bench 99 plate 0 lack 0;" + Edges.guest("a", 10, 9, 0, 0) + Edges.guest("b", 10, 0, 0, 0)
                + "pulls a b;";
        due("it does not pay", Edges.told(dear).best(), 0);
    }

    @Says("III: behind whose cards WORTH (as it is told in hundredths) is greatest")
    static void bestByAHundredth() {
        String text = "seats 2 bench %d plate 0 lack 0;" + Edges.guests(2, 3, 5, 0, 0) + Edges.guest("c", 1, 1, 0, 0);
        // 3 + 0.1 - 0.009 bench: by 10 that is 3.01, by 11 3.001.
        AndGuest x = Edges.told(String.format(text, 10));
        due("a hundredth more", x.would(7) - x.would(3), 1);
        due("best", x.best(), 7);
        AndGuest y = Edges.told(String.format(text, 11));
        due("less than a hundredth more", y.would(7) - y.would(3), 0);
        due("best", y.best(), 3);
    }

    @Says("III: behind whose cards WORTH (as it is told in hundredths) is greatest")
    static void bestOfWorthsBelow0() {
        AndGuest x = sent("seats 9 bench 0 plate 0 lack 0;" + Edges.guest("a", 0, 0, 0, 0) + Edges.guest("b", 0, 0, 0, 9)
                + Edges.guest("c", 0, 0, 0, 7) + "hears b a;hears c a;late slight/2+3;", 1);
        due("in the WEEK of the first card", x.best(), 6);
        due("weeks", x.weeks(1), true);
        // b costs 9 left out, 7 late; c 7 left out, 6 late.
        due("worth", x.worth(), -1600);
        due("best", x.best(), 6);
        due("its worth", x.would(6), -1300);
    }

    @Says("III: behind whose cards WORTH (as it is told in hundredths) is greatest")
    static void bestOfCardsThatAreLateByNow() {
        String text = HEAD + Edges.guests(3, 10, 9, 0, 0) + "late 3*weeks;";
        AndGuest x = sent(text, 1);
        due("at once", x.best(), 6);
        due("weeks", x.weeks(2), true);
        due("by 6 late", x.best(), 6);
        due("weeks", x.weeks(1), true);
        due("by 9 late", x.best(), 0);
        due("undo", x.undo(), true);
        due("by 6 late", x.best(), 6);
        AndGuest y = sent(text, 1);
        due("weeks", y.weeks(4), true);
        due("left out for nothing", y.leave(1), 0);
    }

    @Says("III: of like ones the fewest GUESTS, then the least bits")
    static void fewestAheadOfLeastBits() {
        AndGuest x = Edges.told(THREE);
        due("two", x.would(3), 1000);
        due("one", x.would(4), 1000);
        due("the one", x.best(), 4);
    }

    @Says("III: of like ones the fewest GUESTS, then the least bits")
    static void leastBitsOfAsMany() {
        String text = "seats 1 bench 99 plate 0 lack 0;" + Edges.guests(8, 10, 9, 0, 0);
        due("best", Edges.told(text).best(), 1);
        due("the next", sent(text.replace("seats 1", "seats 2"), 1).best(), 2);
        String two = "seats 2 bench 99 plate 0 lack 0;" + Edges.guest("a", 10, 4, 0, 0) + Edges.guest("b", 10, 6, 0, 0)
                + Edges.guest("c", 10, 6, 0, 0) + Edges.guest("d", 10, 4, 0, 0);
        due("best two", Edges.told(two).best(), 6);
    }

    // ---- LEFT OUT

    @Says("III: LEFT OUT is a GUEST not asked, if neither he is asked now, nor who pulls him: by how much less WORTH the BEST has then.")
    static void leftOutForNothing() {
        AndGuest x = Edges.told(THREE);
        due("who is not in the best", x.leave(0), 0);
        due("for whom others come", x.leave(2), 0);
        due("without joy", Edges.told(HEAD + Edges.guest("a", 10, 0, 0, 0)).leave(0), 0);
    }

    @Says("III: LEFT OUT is a GUEST not asked, if neither he is asked now, nor who pulls him")
    static void leftOutWithWhoPullsHim() {
        AndGuest x = Edges.told(HEAD + Edges.guest("a", 10, 30, 0, 0) + Edges.guest("b", 10, 4, 0, 0)
                + Edges.guest("c", 10, 2, 0, 0) + "pulls a b;");
        due("a", x.leave(0), 3000);
        due("b, and a with him", x.leave(1), 3400);
        due("c", x.leave(2), 200);
    }

    @Says("III: LEFT OUT is a GUEST not asked, if neither he is asked now, nor who pulls him")
    static void leftOutWithAllWhoPullHimFar() {
        AndGuest x = Edges.told(HEAD + Edges.guest("a", 10, 30, 0, 0) + Edges.guest("b", 10, 4, 0, 0)
                + Edges.guest("c", 10, 2, 0, 0) + "pulls a b;pulls b c;");
        due("c, and with him b, a", x.leave(2), 3600);
        due("b, and a with him", x.leave(1), 3400);
        due("a", x.leave(0), 3000);
    }

    @Says("III: by how much less WORTH the BEST has then.")
    static void leftOutCostsSlightToo() {
        AndGuest x = Edges.told(HEAD + Edges.guest("a", 10, 20, 0, 0) + Edges.guest("b", 10, 4, 0, 9) + "hears b a;");
        due("b hears of a", x.leave(1), 400 + 900);
        due("a alone is not heard of", x.leave(0), 2000);
    }

    @Says("III: by how much less WORTH the BEST has then.")
    static void leftOutByTheMostThatCanBe() {
        AndGuest x = Edges.told("seats 40 bench 0 plate 0 lack 0;" + Edges.guests(8, 10, 99, 3, 0)
                + "pulls a h;pulls b h;pulls c h;pulls d h;pulls e h;pulls f h;pulls g h;");
        due("all go with h", x.leave(7), 79200);
        due("a alone", x.leave(0), 9900);
    }

    @Says("III: LEFT OUT is a GUEST not asked, if neither he is asked now, nor who pulls him")
    static void whoWasAskedAlreadyStays() {
        AndGuest x = Edges.told(HEAD + Edges.guest("a", 10, 30, 0, 0) + Edges.guest("b", 10, 4, 0, 0) + "pulls a b;");
        due("a asked, b not", Edges.on(x, Edges.picture(0, 0, 0, 0, 1, 0, 0, 0, 0, 0)), true);
        due("b left out", x.leave(1), 400);
        due("a is asked", x.leave(0), NONE);
    }

    // ---- ENOUGH

    @Says("III: ENOUGH is a WHOLE SET of GUESTS not asked (none, too)")
    static void enoughMayBeNone() {
        due("no guests", Edges.told(HEAD).enough(0), 0);
        due("for none", Edges.told(THREE).enough(0), 0);
        due("asked ones are enough", sent(THREE, 4).enough(2), 0);
    }

    @Says("III: ENOUGH is a WHOLE SET of GUESTS not asked (none, too)")
    static void enoughIsWhole() {
        AndGuest x = Edges.told(HEAD + Edges.guest("a", 10, 1, 3, 0) + Edges.guest("b", 0, 1, 0, 0)
                + Edges.guest("c", 0, 1, 0, 0) + "pulls a b;pulls b c;");
        due("with all that it pulls", x.enough(4), 7);
        due("send", x.send(6), 2);
        due("who are asked", x.enough(4), 1);
    }

    @Says("III: behind whose cards so many come on the MEAN (exactly) at least")
    static void enoughExactly() {
        due("5 and 5 of ten", Edges.told(HEAD + Edges.guests(2, 5, 1, 0, 0)).enough(1), 3);
        due("5 and 4 of ten", Edges.told(HEAD + Edges.guest("a", 5, 1, 0, 0) + Edges.guest("b", 4, 1, 0, 0)).enough(1), NONE);
        due("4 by 5 of ten", Edges.told(HEAD + Edges.guest("a", 5, 1, 3, 0)).enough(2), 1);
        due("4 by 5 of ten, not 3", Edges.told(HEAD + Edges.guest("a", 5, 1, 3, 0)).enough(3), NONE);
    }

    @Says("III: behind whose cards so many come on the MEAN (exactly) at least")
    static void thirtyTwoAreEnoughIfAllComeForSure() {
        due("all by ten", Edges.told(HEAD + Edges.guests(8, 10, 1, 3, 0)).enough(32), 255);
        due("one by nine", Edges.told(HEAD + Edges.guests(7, 10, 1, 3, 0) + Edges.guest("h", 9, 1, 3, 0)).enough(32), NONE);
        due("thirty-one", Edges.told(HEAD + Edges.guests(7, 10, 1, 3, 0) + Edges.guest("h", 9, 1, 3, 0)).enough(31), 255);
    }

    @Says("III: behind whose cards so many come on the MEAN (exactly) at least")
    static void whoIsAskedCountsAsHeAnswered() {
        AndGuest x = sent(HEAD + Edges.guests(3, 5, 1, 0, 0) + "maybe 9;", 1);
        due("waits by 5", x.enough(1), 2);
        due("answer", x.answer(0, 2), true);
        due("comes", x.enough(1), 0);
        due("answer", x.answer(0, 3), true);
        due("comes not", x.enough(1), 6);
        due("answer", x.answer(0, 4), true);
        due("maybe by 9", x.enough(1), 2);
    }

    @Says("III: the one of the fewest GUESTS, of like ones the least bits.")
    static void enoughOfTheFewest() {
        due("one of two heads", Edges.told(THREE).enough(2), 4);
        due("three heads", Edges.told(THREE).enough(3), 5);
        due("four heads", Edges.told(THREE).enough(4), 7);
    }

    @Says("III: the one of the fewest GUESTS, of like ones the least bits.")
    static void enoughOfTheLeastBits() {
        AndGuest x = Edges.told(HEAD + Edges.guests(8, 10, 1, 0, 0));
        for (int n = 0; n <= 8; n++) {
            due("enough " + n, x.enough(n), (1 << n) - 1);
        }
        due("enough 9", x.enough(9), NONE);
    }

    // ---- SAFE

    @Says("III: SAFE is a set of all GUESTS (as if none was asked, all cards went at once, none had answered)")
    static void safeIsTheSameHoweverAllIs() {
        String text = THREE + "hears a b;late 99;";
        AndGuest x = sent(text, 2);
        due("weeks", x.weeks(3), true);
        due("send", x.send(1), 1);
        due("answer", x.answer(0, 3), true);
        AndGuest y = Edges.told(text);
        for (int what = 0; what < 3; what++) {
            due("safe " + what, x.safe(what), y.safe(what));
        }
        due("safe", y.safe(0), 3);
    }

    @Says("III: by whose SIZES together no more than seats come")
    static void safeJustFillsTheSeats() {
        String guests = Edges.guest("a", 1, 9, 3, 0) + Edges.guest("b", 1, 1, 0, 0);
        int[] seats = {0, 1, 3, 4, 5, 40};
        int[] want = {0, 2, 2, 1, 3, 3};
        for (int k = 0; k < seats.length; k++) {
            due("seats " + seats[k], Edges.told("seats " + seats[k] + " bench 0 plate 0 lack 0;" + guests).safe(0), want[k]);
        }
    }

    @Says("III: by whose SIZES together no more than seats come")
    static void safeOfAllWhoTakeTheMost() {
        String guests = " bench 0 plate 0 lack 0;" + Edges.guests(8, 1, 99, 3, 0);
        AndGuest x = Edges.told("seats 32" + guests);
        due("all", x.safe(0), 255);
        due("all joy", x.safe(2), 792);
        due("one too few", Edges.told("seats 31" + guests).safe(0), 127);
    }

    @Says("III: SAFE is a set of all GUESTS (as if none was asked, all cards went at once, none had answered), whole")
    static void safeIsWhole() {
        String guests = " bench 0 plate 0 lack 0;" + Edges.guests(2, 1, 9, 0, 0) + "pulls a b;";
        due("one seat", Edges.told("seats 1" + guests).safe(0), 2);
        AndGuest x = sent("seats 1" + guests.replace("b comes 1 joy 9", "b comes 1 joy 0"), 2);
        due("though b was asked", x.safe(0), 0);
        due("two seats", Edges.told("seats 2" + guests).safe(0), 3);
    }

    @Says("III: SAFE is a set of all GUESTS (as if none was asked, all cards went at once, none had answered), whole")
    static void safeIsWholeWhomeverItPulls() {
        String guests = " bench 0 plate 0 lack 0;" + Edges.guest("a", 1, 0, 0, 0) + Edges.guest("b", 1, 9, 0, 0);
        due("b pulls a", Edges.told("seats 1" + guests + "pulls b a;").safe(0), 0);
        due("and two seats", Edges.told("seats 2" + guests + "pulls b a;").safe(0), 3);
        due("and no pulls", Edges.told("seats 1" + guests).safe(0), 2);
    }

    @Says("III: the one of least OFFENCE, of like ones the most joy together (all come), then the least bits.")
    static void whoIsInItIsNotSlighted() {
        AndGuest x = Edges.told(HEAD + Edges.guests(3, 10, 9, 0, 9) + "hears a b;hears b c;hears c a;");
        due("all", x.safe(0), 7);
        due("offence", x.safe(1), 0);
        due("joy", x.safe(2), 27);
    }

    @Says("III: the one of least OFFENCE, of like ones the most joy together (all come), then the least bits.")
    static void nothingOfAnEarlierSafeIsLeft() {
        AndGuest x = Edges.told(HEAD + Edges.guests(3, 10, 9, 0, 9));
        due("all", x.safe(0), 7);
        due("wedding", Check.tell(x, "seats 0 bench 0 plate 0 lack 0;" + Edges.guests(3, 10, 9, 0, 9)), 4);
        for (int what = 0; what < 3; what++) {
            due("none", x.safe(what), 0);
        }
    }

    @Says("III: the one of least OFFENCE, of like ones the most joy together (all come), then the least bits.")
    static void leastOffenceAheadOfJoy() {
        AndGuest x = Edges.told("seats 1 bench 0 plate 0 lack 0;" + Edges.guest("a", 10, 99, 0, 0)
                + Edges.guest("b", 10, 1, 0, 1) + "hears b a;");
        due("who offends none", x.safe(0), 2);
        due("offence", x.safe(1), 0);
        due("joy", x.safe(2), 1);
        AndGuest y = Edges.told("seats 1 bench 0 plate 0 lack 0;" + Edges.guest("a", 10, 99, 0, 0)
                + Edges.guest("b", 10, 1, 0, 0) + "hears b a;");
        due("by a slight of 0", y.safe(0), 1);
    }

    @Says("III: the one of least OFFENCE, of like ones the most joy together (all come), then the least bits.")
    static void leastOffenceMayBeOfNone() {
        AndGuest x = Edges.told("seats 1 bench 0 plate 0 lack 0;" + Edges.guests(2, 10, 9, 0, 1) + "hears a b;hears b a;");
        due("safe", x.safe(0), 0);
        due("offence", x.safe(1), 0);
        due("joy", x.safe(2), 0);
    }

    @Says("III: of like ones the most joy together (all come), then the least bits.")
    static void mostJoyAsIfAllCome() {
        AndGuest x = Edges.told("seats 1 bench 0 plate 0 lack 0;" + Edges.guest("a", 10, 8, 0, 0)
                + Edges.guest("b", 0, 9, 0, 0));
        due("who comes by none", x.safe(0), 2);
        due("joy", x.safe(2), 9);
    }

    @Says("III: of like ones the most joy together (all come), then the least bits.")
    static void safeOfLeastBitsThoughOfMoreGuests() {
        due("two of the least bits", Edges.told(THREE).safe(0), 3);
        due("none of no joy", Edges.told(HEAD + Edges.guests(4, 10, 0, 0, 0)).safe(0), 0);
    }

    // ---- PLATES

    private static void plates(String seats, String guests, int all, int want, int cost) {
        AndGuest x = sent(seats + guests, all);
        due("plates(0)", x.plates(0), want);
        due("plates(1)", x.plates(1), cost);
        due("order", x.order(want), cost);
    }

    @Says("III: A PLATE ORDER of n costs n plates, and lack for each that comes beyond it, on the MEAN")
    static void beyondJustSoMany() {
        AndGuest x = sent("seats 0 bench 0 plate 7 lack 11;" + Edges.guest("a", 10, 0, 3, 0), 1);
        int[] want = {4400, 4000, 3600, 3200, 2800, 3500};
        for (int n = 0; n < want.length; n++) {
            due("order " + n, x.order(n), want[n]);
        }
    }

    @Says("III: A PLATE ORDER of n costs n plates, and lack for each that comes beyond it, on the MEAN")
    static void theDearestOrders() {
        AndGuest x = sent("seats 0 bench 0 plate 99 lack 99;" + Edges.guests(8, 10, 0, 3, 0), 255);
        for (int n = 0; n <= 32; n++) {
            due("order " + n, x.order(n), 316800);
        }
        due("least of like ones", x.plates(0), 0);
    }

    @Says("III: the one that costs least (exactly, not as it is told)")
    static void leastExactly() {
        // All three come by 0.028: 2 + 36 * 0.028 = 3.008 is told as 3 is.
        String text = "seats 0 bench 0 plate 1 lack 36;" + Edges.guest("a", 7, 0, 0, 0) + Edges.guest("b", 4, 0, 0, 0)
                + Edges.guest("c", 1, 0, 0, 0);
        AndGuest x = sent(text, 7);
        due("order 2", x.order(2), 300);
        due("order 3", x.order(3), 300);
        due("plates", x.plates(0), 3);
    }

    @Says("III: of like ones the least n.")
    static void leastOfLikeOrders() {
        plates("seats 0 bench 0 plate 5 lack 5;", Edges.guest("a", 10, 0, 0, 0), 1, 0, 500);
        plates("seats 0 bench 0 plate 1 lack 2;", Edges.guest("a", 5, 0, 0, 0), 1, 0, 100);
        plates("seats 0 bench 0 plate 0 lack 0;", Edges.guests(8, 10, 0, 3, 0), 255, 0, 0);
    }

    @Says("III: of like ones the least n.")
    static void noMorePlatesThanCanBeWanted() {
        plates("seats 0 bench 0 plate 0 lack 1;", Edges.guest("a", 10, 0, 1, 0), 1, 2, 0);
        plates("seats 0 bench 0 plate 0 lack 1;", Edges.guest("a", 1, 0, 3, 0) + Edges.guest("b", 0, 0, 3, 0), 3, 4, 0);
        plates("seats 0 bench 0 plate 0 lack 99;", Edges.guests(8, 1, 0, 3, 0), 255, 32, 0);
    }

    @Says("III: the one that costs least")
    static void noneAndOnePlate() {
        plates("seats 0 bench 0 plate 6 lack 5;", Edges.guest("a", 10, 0, 0, 0), 1, 0, 500);
        plates("seats 0 bench 0 plate 5 lack 6;", Edges.guest("a", 10, 0, 0, 0), 1, 1, 500);
    }

    // ---- RING

    @Says("III: To RING is to know for sure whether a GUEST comes who waits, or is maybe")
    static void whoIsSureOrNotAskedIsNotRung() {
        AndGuest x = sent("seats 0 bench 0 plate 10 lack 30;" + Edges.guests(4, 5, 0, 0, 0), 14);
        due("answer", x.answer(1, 2), true);
        due("answer", x.answer(2, 3), true);
        due("who waits", x.ring(0), 3);
        due("answer", x.answer(3, 4), true);
        due("who is maybe", x.ring(0), 3);
        due("answer", x.answer(3, 3), true);
        due("none", x.ring(0), NONE);
        due("none", x.ring(1), NONE);
    }

    @Says("III: by whom the MEAN (of both, by how likely they are) of what the best PLATE ORDER costs then is least")
    static void bothByHowLikelyTheyAre() {
        for (int tenths = 0; tenths <= 10; tenths++) {
            AndGuest x = sent("seats 0 bench 0 plate 10 lack 30;" + Edges.guest("a", tenths, 0, 0, 0), 1);
            due("ring", x.ring(0), 0);
            due("one plate, or none", x.ring(1), 100 * tenths);
        }
    }

    @Says("III: by whom the MEAN (of both, by how likely they are) of what the best PLATE ORDER costs then is least")
    static void maybeIsByMaybe() {
        AndGuest x = sent("seats 0 bench 0 plate 10 lack 30;" + Edges.guest("a", 9, 0, 0, 0) + "maybe 2;", 1);
        due("waits", x.ring(1), 900);
        due("answer", x.answer(0, 4), true);
        due("maybe", x.ring(1), 200);
    }

    @Says("III: is least (exactly); of like ones the first.")
    static void ringExactly() {
        // Ringing costs 4.856, 4.598, 4.596, 4.596 by each: the second is told as the third is.
        AndGuest x = sent("seats 0 bench 0 plate 2 lack 22;" + Edges.guest("a", 9, 0, 0, 0) + Edges.guest("b", 2, 0, 0, 0)
                + Edges.guest("c", 1, 0, 0, 0) + Edges.guest("d", 1, 0, 0, 0), 15);
        due("ring(1)", x.ring(1), 459);
        due("ring(0)", x.ring(0), 2);
    }

    @Says("III: of like ones the first.")
    static void ringTheFirstOfLikeOnes() {
        AndGuest x = sent("seats 0 bench 0 plate 10 lack 30;" + Edges.guests(8, 5, 0, 0, 0), 254);
        due("the first who waits", x.ring(0), 1);
        due("where all is for nothing", sent(HEAD + Edges.guests(3, 5, 0, 0, 0), 6).ring(0), 1);
    }

    // ---- the YEAR

    private static void full(String guest, String more, int how, int want) {
        AndGuest x = sent(HEAD + guest + more, 1);
        if (how > 1) {
            due("answer", x.answer(0, how), true);
        }
        due("full, " + guest + more + " " + how, x.full(), want);
    }

    @Says("III: then who waits COMES by more more of ten (ten at most)")
    static void tenAtMost() {
        String[] guests = new String[11];
        for (int tenths = 0; tenths <= 10; tenths++) {
            guests[tenths] = Edges.guest("a", tenths, 0, 0, 0);
        }
        full(guests[7], "more 2;", 2, 562500);
        full(guests[8], "more 2;", 2, 555555);
        full(guests[9], "more 2;", 2, 526315);
        full(guests[10], "more 2;", 2, 500000);
        full(guests[7], "more 2;", 3, 250000);
        full(guests[8], "more 2;", 3, 0);
        full(guests[9], "more 2;", 3, 0);
        full(guests[1], "more 9;", 2, 909090);
        full(guests[2], "more 9;", 2, 833333);
    }

    @Says("III: both are as likely at first.")
    static void halfAtFirst() {
        due("no guests", Edges.told(HEAD).full(), 500000);
        due("none asked", Edges.told(HEAD + Edges.guests(8, 1, 1, 1, 1)).full(), 500000);
        due("all wait", sent(HEAD + Edges.guests(8, 1, 1, 1, 1), 255).full(), 500000);
        full(Edges.guest("a", 5, 0, 0, 0), "more 0;", 2, 500000);
        full(Edges.guest("a", 5, 0, 0, 0), "more 0;", 3, 500000);
    }

    @Says("III: By who is coming, not coming (of those asked; maybe tells nothing;")
    static void maybeTellsNothing() {
        full(Edges.guest("a", 1, 0, 0, 0), "more 9;", 4, 500000);
        full(Edges.guest("a", 1, 0, 0, 0), "more 9;maybe 10;", 4, 500000);
        full(Edges.guest("a", 1, 0, 0, 0), "more 9;", 1, 500000);
    }

    @Says("III: if by these neither can be: half")
    static void neitherCanBe() {
        full(Edges.guest("a", 0, 0, 0, 0), "more 0;", 2, 500000);
        full(Edges.guest("a", 10, 0, 0, 0), "more 0;", 3, 500000);
        full(Edges.guest("a", 10, 0, 0, 0), "more 9;", 3, 500000);
        // One can't come as told, another can't stay away in a FULL year.
        AndGuest x = sent(HEAD + Edges.guest("a", 0, 0, 0, 0) + Edges.guest("b", 9, 0, 0, 0) + "more 1;", 3);
        due("answer", x.answer(0, 2), true);
        due("full alone can be", x.full(), 1000000);
        due("answer", x.answer(1, 3), true);
        due("neither", x.full(), 500000);
        due("answer", x.answer(0, 4), true);
        due("as told alone can be", x.full(), 0);
    }

    @Says("III: By who is coming, not coming")
    static void oneOfTheTwoCanBe() {
        full(Edges.guest("a", 0, 0, 0, 0), "more 1;", 2, 1000000);
        full(Edges.guest("a", 9, 0, 0, 0), "more 1;", 3, 0);
    }

    @Says("III: By who is coming, not coming")
    static void allEightTell() {
        AndGuest x = sent(HEAD + Edges.guests(8, 1, 1, 3, 1) + "more 9;", 255);
        for (int g = 0; g < 8; g++) {
            due("answer", x.answer(g, 2), true);
        }
        // 10^8 to 1
        due("full", x.full(), 999999);
        AndGuest y = sent(HEAD + Edges.guests(8, 5, 1, 3, 1) + "more 1;", 255);
        for (int g = 0; g < 8; g++) {
            due("answer", y.answer(g, g < 4 ? 2 : 3), true);
        }
        // 30^4 to 25^4 * 2^4 .. : 6^4 4^4 = 331776 to 5^8 = 390625
        due("full", y.full(), 331776L * 1000000 / (331776 + 390625));
    }

    // ---- SEEN

    private static final String SEEN = HEAD + Edges.guest("a", 0, 5, 0, 0) + Edges.guest("b", 10, 5, 0, 0)
            + Edges.guest("c", 5, 10, 1, 0) + Edges.guest("d", 5, 0, 3, 0) + "pulls c d;";

    private static void seen(AndGuest x, int sat, int joy, int count, int all, int some) {
        due("seen how many " + sat + " " + joy, x.seen(sat, joy, 0), count);
        due("seen in all " + sat + " " + joy, x.seen(sat, joy, 1), all);
        due("seen in some " + sat + " " + joy, x.seen(sat, joy, 2), some);
    }

    @Says("III: SEEN is how many sat at last, how much joy they had together")
    static void bothMustBeJustSo() {
        AndGuest x = Edges.told(SEEN);
        seen(x, 2, 10, 2, 0, 7);
        seen(x, 2, 9, 0, 0, 0);
        seen(x, 2, 11, 0, 0, 0);
        seen(x, 1, 10, 0, 0, 0);
        seen(x, 3, 10, 0, 0, 0);
    }

    @Says("III: SETS of all GUESTS who can have come: by SIZE, joy just so.")
    static void noneAndAllWhoCanHaveCome() {
        AndGuest x = Edges.told(SEEN);
        seen(x, 0, 0, 1, 0, 0);
        seen(x, 8, 20, 1, 15, 15);
        seen(x, 4, 0, 1, 8, 8);
        seen(x, 5, 5, 2, 8, 11);
    }

    @Says("III: SETS of all GUESTS who can have come: by SIZE, joy just so.")
    static void setsOfAllWhoeverWasAsked() {
        AndGuest x = sent(SEEN, 8);
        due("answer", x.answer(3, 3), true);
        seen(x, 6, 10, 2, 8, 15);
        due("would is another thing", x.would(8), NOTHING);
    }

    @Says("III: SETS of all GUESTS who can have come: by SIZE, joy just so.")
    static void asManySetsAsCanBe() {
        seen(Edges.told(HEAD + Edges.guests(8, 1, 0, 0, 1)), 4, 0, 70, 0, 255);
        seen(Edges.told(HEAD + Edges.guests(8, 1, 99, 3, 1)), 32, 792, 1, 255, 255);
        seen(Edges.told(HEAD + Edges.guests(8, 1, 99, 3, 1)), 28, 693, 8, 0, 255);
    }
}

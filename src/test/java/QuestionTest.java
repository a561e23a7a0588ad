/** Terms, IV: each edge that a sentence about QUESTIONS and IMAGES names. */
public final class QuestionTest {
    private static final int NONE = Edges.NONE;
    private static final long NOTHING = Edges.NOTHING;
    private static final String HEAD = Edges.HEAD;

    public static void main(String[] args) {
        Edges.run(QuestionTest.class);
    }

    private static void due(String what, long got, long want) {
        Edges.due(what, got, want);
    }

    private static void due(String what, boolean got, boolean want) {
        Edges.due(what, got, want);
    }

    private static void answers(AndGuest x, String question, long want) {
        Edges.answers(x, question, want);
    }

    private static void bad(String question, int fault, int place) {
        Edges.badQuestion(question, fault, place);
    }

    private static AndGuest alone() {
        return Edges.told(HEAD + Edges.guest("a", 5, 7, 1, 4));
    }

    private static AndGuest eight() {
        return Edges.told(HEAD + Edges.guests(8, 5, 7, 1, 4));
    }

    // ---- kinds of QUESTIONS

    @Says("IV: first TEST, last TEST (the first, the last GUEST for whom it holds)")
    static void firstAndLast() {
        AndGuest x = eight();
        answers(x, "first all", 0);
        answers(x, "last all", 7);
        answers(x, "first number=7", 7);
        answers(x, "last number=0", 0);
        answers(x, "first number=3 or number=5", 3);
        answers(x, "last number=3 or number=5", 5);
    }

    @Says("IV: first TEST, last TEST (the first, the last GUEST for whom it holds)")
    static void firstAndLastOfNone() {
        AndGuest x = eight();
        answers(x, "first not all", NONE);
        answers(x, "last not all", NONE);
        answers(x, "first number=8", NONE);
        answers(x, "last number<0", NONE);
    }

    @Says("IV: often TEST (for how many)")
    static void often() {
        AndGuest x = eight();
        answers(x, "often all", 8);
        answers(x, "often not all", 0);
        answers(x, "often number<1", 1);
        answers(x, "often number>0", 7);
    }

    @Says("IV: total SUM (of all together, not held)")
    static void totalIsNotHeld() {
        AndGuest x = eight();
        answers(x, "total 9999*9999", 8000000);
        answers(x, "total (0-9999)*9999", -8000000);
        answers(x, "total 1000*1000-number", 8000000 - 28);
        answers(x, "total 0", 0);
    }

    @Says("IV: most SUM, least SUM (the greatest, the least of all; 0 without GUESTS)")
    static void mostAndLeast() {
        AndGuest x = eight();
        answers(x, "most number", 7);
        answers(x, "least number", 0);
        answers(x, "most 0-number", 0);
        answers(x, "least 0-number", -7);
        answers(x, "most number*(7-number)", 12);
        answers(x, "least number*number-6*number", -9);
    }

    @Says("IV: most SUM, least SUM (the greatest, the least of all; 0 without GUESTS)")
    static void mostBelow0AndLeastAbove0() {
        AndGuest x = eight();
        answers(x, "most 0-number-1", -1);
        answers(x, "least number+1", 1);
        answers(alone(), "most 0-9999*9999", -1000000);
        answers(alone(), "least 9999*9999", 1000000);
    }

    @Says("IV: most SUM, least SUM (the greatest, the least of all; 0 without GUESTS)")
    static void withoutGuests() {
        AndGuest x = Edges.told(HEAD);
        answers(x, "most 7", 0);
        answers(x, "least 7", 0);
        answers(x, "most 0-7", 0);
        answers(x, "total 7", 0);
        answers(x, "often all", 0);
        answers(x, "first all", NONE);
        answers(x, "last all", NONE);
    }

    @Says("IV: A QUESTION is a text, of all GUESTS")
    static void ofAllGuestsAskedOrNot() {
        AndGuest x = eight();
        due("send", x.send(3), 2);
        due("answer", x.answer(1, 3), true);
        answers(x, "often all", 8);
        answers(x, "total 1", 8);
    }

    @Says("IV: A QUESTION is a text, of all GUESTS")
    static void nothingElseIsAQuestion() {
        for (String other : "all number how seats guest firsts lasts oftenn totals mosts leasts fir max min".split(" ")) {
            bad(other + " 1", 1, 0);
        }
        bad("First all", 1, 0);
        bad("1", 1, 0);
        bad("(1)", 1, 0);
    }

    // ---- TEST

    @Says("IV: TEST: BOTH { or BOTH }. BOTH: FACT { and FACT }.")
    static void orOfEach() {
        AndGuest x = alone();
        String no = "1=2";
        String yes = "1=1";
        answers(x, "often " + no + " or " + no, 0);
        answers(x, "often " + no + " or " + yes, 1);
        answers(x, "often " + yes + " or " + no, 1);
        answers(x, "often " + yes + " or " + yes, 1);
        answers(x, "often " + no + " or " + no + " or " + yes, 1);
    }

    @Says("IV: BOTH: FACT { and FACT }.")
    static void andOfEach() {
        AndGuest x = alone();
        String no = "1=2";
        String yes = "1=1";
        answers(x, "often " + no + " and " + no, 0);
        answers(x, "often " + no + " and " + yes, 0);
        answers(x, "often " + yes + " and " + no, 0);
        answers(x, "often " + yes + " and " + yes, 1);
        answers(x, "often " + yes + " and " + yes + " and " + no, 0);
    }

    @Says("IV: TEST: BOTH { or BOTH }. BOTH: FACT { and FACT }.")
    static void andIsCloserThanOr() {
        AndGuest x = alone();
        answers(x, "often 1=1 or 1=1 and 1=2", 1);
        answers(x, "often 1=2 and 1=1 or 1=1", 1);
        answers(x, "often [1=1 or 1=1] and 1=2", 0);
        answers(x, "often 1=2 and [1=1 or 1=1]", 0);
    }

    @Says("IV: TEST: BOTH { or BOTH }. BOTH: FACT { and FACT }.")
    static void orAndAndWantAFactOnEachSide() {
        bad("first or all", 1, 6);
        bad("first and all", 1, 6);
        bad("first all or", 1, 12);
        bad("first all and", 1, 13);
        bad("first all or and all", 1, 13);
        bad("first all all", 1, 10);
    }

    @Says("IV: FACT: not FACT; [ TEST ] ; all; SUM SIGN SUM")
    static void notIsOfOneFact() {
        AndGuest x = alone();
        answers(x, "often not 1=1", 0);
        answers(x, "often not 1=2", 1);
        answers(x, "often not not 1=1", 1);
        answers(x, "often not not not 1=1", 0);
        answers(x, "often not 1=1 or 1=1", 1);
        answers(x, "often not 1=2 and 1=2", 0);
        answers(x, "often not [1=2 and 1=2]", 1);
        answers(x, "often not [1=1 or 1=1]", 0);
        answers(x, "often 1=1 and not 1=2", 1);
    }

    @Says("IV: FACT: not FACT; [ TEST ] ; all; SUM SIGN SUM")
    static void aFactIsWhole() {
        bad("first not", 1, 9);
        bad("first []", 1, 7);
        bad("first [all", 1, 10);
        bad("first [all)", 1, 10);
        bad("first all]", 1, 9);
        bad("first 1", 1, 7);
        bad("first 1 or 1=1", 1, 8);
        bad("first 1<", 1, 8);
        bad("first <1", 1, 6);
        bad("first 1<1<1", 1, 9);
        bad("first 1<=1", 1, 8);
        bad("first 1==1", 1, 8);
        bad("first 1!1", 1, 7);
        bad("first [all]=1", 1, 11);
        bad("first (all)", 1, 7);
        bad("first (1=1)", 1, 8);
        bad("first [1]", 1, 8);
        bad("first all=1", 1, 9);
    }

    @Says("IV: SIGN < or > or =")
    static void signsAtLikeOnes() {
        AndGuest x = alone();
        String[] right = {"1<2", "2>1", "2=2", "0-1<0", "0>0-1", "0-1=0-1", "999*999<999*999+1", "9999*9999=1000*1000"};
        String[] wrong = {"2<2", "2>2", "2=1", "1=2", "2<1", "1>2", "0<0-1", "0-1>0"};
        for (String test : right) {
            answers(x, "often " + test, 1);
        }
        for (String test : wrong) {
            answers(x, "often " + test, 0);
        }
    }

    // ---- PART

    @Says("IV: PART: N; number; how; comes; joy; slight; size; weeks; pulls PART; ( SUM ) ; min ( SUM , SUM ) ; max ( SUM , SUM )")
    static void eachPart() {
        AndGuest x = alone();
        answers(x, "total 9999", 9999);
        answers(x, "total 0", 0);
        answers(x, "total number", 0);
        answers(x, "total how", 0);
        answers(x, "total comes", 5);
        answers(x, "total joy", 7);
        answers(x, "total slight", 4);
        answers(x, "total size", 2);
        answers(x, "total weeks", 0);
        answers(x, "total pulls 0", 1);
        answers(x, "total (3)", 3);
        answers(x, "total min(3,4)", 3);
        answers(x, "total max(3,4)", 4);
    }

    @Says("IV: PART: N; number; how; comes; joy; slight; size; weeks; pulls PART; ( SUM )")
    static void noOtherPart() {
        for (String other : "all not seats late with maybe a ann first numbers ? ) ] , < -".split(" ")) {
            bad("total " + other, 1, 6);
            bad("total 1+" + other, 1, 8);
        }
    }

    @Says("IV: SUM as in I")
    static void sumsAreHeld() {
        AndGuest x = alone();
        answers(x, "total 9999*100+99", 999999);
        answers(x, "total 9999*100+100", 1000000);
        answers(x, "total 9999*100+101", 1000000);
        answers(x, "total 9999*100-(0-99)", 999999);
        answers(x, "total 9999*100-(0-100)", 1000000);
        answers(x, "total 9999*100-(0-101)", 1000000);
        answers(x, "total 1000*1000", 1000000);
        answers(x, "total 1001*1000", 1000000);
        answers(x, "total 1000*999", 999000);
        answers(x, "total 0-9999*100-99", -999999);
        answers(x, "total 0-9999*100-100", -1000000);
        answers(x, "total 0-9999*100-101", -1000000);
        answers(x, "total (0-9999)*100+(0-101)", -1000000);
        answers(x, "total (0-1000)*1000", -1000000);
        answers(x, "total (0-1001)*1000", -1000000);
        answers(x, "total 1000*1000*1000*(0-1)", -1000000);
    }

    @Says("IV: SUM as in I")
    static void eachStepIsHeld() {
        AndGuest x = alone();
        answers(x, "total 1000*1000+1-1", 999999);
        answers(x, "total 0-1000*1000-1+1", -999999);
        answers(x, "total 1001*1000/1000", 1000);
        answers(x, "total (0-1001)*1000/1000", -1000);
        answers(x, "total 1000*1000*1000*1000/1000", 1000);
    }

    @Says("IV: SUM as in I")
    static void divisions() {
        AndGuest x = alone();
        answers(x, "total 7/2", 3);
        answers(x, "total (0-7)/2", -4);
        answers(x, "total 7/(0-2)", -4);
        answers(x, "total (0-7)/(0-2)", 3);
        answers(x, "total (0-6)/2", -3);
        answers(x, "total (0-1)/9999", -1);
        answers(x, "total 0/7", 0);
        answers(x, "total 7/0", 0);
        answers(x, "total 0/0", 0);
        answers(x, "total (0-7)/0", 0);
        answers(x, "total 1000*1000/(0-1)", -1000000);
        answers(x, "total (0-1000)*1000/(0-1)", 1000000);
        answers(x, "total 2-3-4", -5);
        answers(x, "total 100/7/2*3", 21);
        answers(x, "total 2+3*4-6/4", 13);
    }

    @Says("IV: (The GUEST's number; 0 .. 4 as in II;")
    static void numbersAndHow() {
        AndGuest x = Edges.told(HEAD + Edges.guests(8, 5, 7, 1, 4));
        due("send", x.send(240), 4);
        for (int how = 2; how <= 4; how++) {
            due("answer", x.answer(3 + how, how), true);
        }
        int[] how = {0, 0, 0, 0, 1, 2, 3, 4};
        for (int g = 0; g < 8; g++) {
            answers(x, "first how=" + how[g] + " and number=" + g, g);
        }
        answers(x, "most how", 4);
        answers(x, "least how", 0);
    }

    @Says("IV: by how many of ten he COMES, as told if not asked")
    static void comesAsToldIfNotAsked() {
        AndGuest x = Edges.told(HEAD + Edges.guests(5, 7, 1, 0, 1) + "maybe 3;");
        answers(x, "total comes", 35);
        due("send", x.send(30), 4);
        due("answer", x.answer(2, 2), true);
        due("answer", x.answer(3, 3), true);
        due("answer", x.answer(4, 4), true);
        int[] comes = {7, 7, 10, 0, 3};
        for (int g = 0; g < 5; g++) {
            answers(x, "often comes=" + comes[g] + " and number=" + g, 1);
        }
    }

    @Says("IV: WEEKS behind the first card at which his went, 0 if none did")
    static void weeksBehind() {
        AndGuest x = Edges.told(HEAD + Edges.guests(4, 7, 1, 0, 1));
        Edges.pass(x, 5);
        answers(x, "most weeks", 0);
        due("send", x.send(2), 1);
        Edges.pass(x, 1);
        due("send", x.send(1), 1);
        Edges.pass(x, 993);
        due("send", x.send(4), 1);
        int[] weeks = {1, 0, 994, 0};
        for (int g = 0; g < 4; g++) {
            answers(x, "often weeks=" + weeks[g] + " and number=" + g, 1);
        }
    }

    @Says("IV: 1 if the FAR set of the GUEST of that number has him, else 0, 0 of those that there are not.")
    static void pullsOfNumbersThatThereAreNot() {
        AndGuest x = Edges.told(HEAD + Edges.guests(3, 5, 1, 0, 1) + "pulls a b;pulls b c;");
        answers(x, "total pulls 0", 3);
        answers(x, "total pulls 1", 2);
        answers(x, "total pulls 2", 1);
        for (String none : "3 7 8 9 31 32 33 34 64 9999 (0-1) (0-2) (0-31) (0-32) (0-33) (9999*9999) (0-9999*9999)".split(" ")) {
            answers(x, "total pulls " + none, 0);
        }
        AndGuest y = eight();
        answers(y, "total pulls 7", 1);
        answers(y, "total pulls 8", 0);
        answers(Edges.told(HEAD), "total pulls 0", 0);
    }

    @Says("IV: 1 if the FAR set of the GUEST of that number has him, else 0")
    static void pullsTellsWhomHePullsNotWhoPullsHim() {
        AndGuest x = Edges.told(HEAD + Edges.guests(3, 5, 1, 0, 1) + "pulls a b;pulls b c;");
        answers(x, "often pulls 0=1", 3);
        answers(x, "first pulls 1=1", 1);
        answers(x, "last pulls 1=1", 2);
        answers(x, "first pulls 2=1", 2);
        answers(x, "often pulls number=1", 3);
        answers(x, "often pulls 0=1 and number>0", 2);
    }

    @Says("IV: 0 of those that there are not.")
    static void nobodyOfAnEarlierWeddingPulls() {
        AndGuest x = eight();
        due("wedding()", Check.tell(x, HEAD + Edges.guest("a", 5, 1, 0, 1)), 2);
        for (int g = 1; g < 8; g++) {
            answers(x, "total pulls " + g, 0);
        }
    }

    @Says("IV: pulls PART; ( SUM )")
    static void pullsIsOfOnePart() {
        AndGuest x = Edges.told(HEAD + Edges.guests(3, 5, 1, 0, 1) + "pulls a b;pulls a c;");
        answers(x, "total pulls 0+1", 6);
        answers(x, "total pulls (0+1)", 1);
        answers(x, "total pulls 0*5", 15);
        answers(x, "total pulls 1-1", -2);
        answers(x, "total pulls (1-1)", 3);
        answers(x, "total pulls pulls 0", 1);
        answers(x, "total pulls min(0,2)", 3);
        bad("total pulls", 1, 11);
        bad("total pulls +1", 1, 12);
        bad("total pulls pulls", 1, 17);
    }

    // ---- FAULTS of QUESTIONS

    @Says("IV: Its FAULTS: 1 as in I (an unknown word at its first byte; what stands behind it, too)")
    static void anUnknownWord() {
        bad("whatever", 1, 0);
        bad("  firstly all", 1, 2);
        bad("first whatever=1", 1, 6);
        bad("first abcdefghijk=1", 1, 6);
        bad("first 1 is 1", 1, 8);
        bad("first all nor all", 1, 10);
        bad("first allall", 1, 6);
        bad("total Joy", 1, 6);
    }

    @Says("IV: what stands behind it, too")
    static void whatStandsBehind() {
        bad("first all;", 1, 9);
        bad("first all  first all", 1, 11);
        bad("total 1 1", 1, 8);
        bad("total 1)", 1, 7);
        bad("total joy=1", 1, 9);
        bad("total joy and all", 1, 10);
        bad("most 1" + (char) 0, 1, 6);
        answers(alone(), " \n total \n 1 \n ", 1);
    }

    @Says("IV: Its FAULTS: 1 as in I")
    static void aQuestionThatEndsTooSoon() {
        bad("", 1, 0);
        bad(" \n ", 1, 3);
        for (String kind : "first last often total most least".split(" ")) {
            bad(kind, 1, kind.length());
            bad(kind + " ", 1, kind.length() + 1);
        }
        bad("total min(1,", 1, 12);
        bad("total (1", 1, 8);
        bad("first [not", 1, 10);
    }

    @Says("IV: Its FAULTS: 1 as in I")
    static void aFifthDigitAndBlanks() {
        answers(alone(), "total 0009", 9);
        bad("total 10000", 1, 10);
        bad("total 00000", 1, 10);
        bad("total1", 1, 5);
        bad("first 1=1or all", 1, 9);
        bad("first all1", 1, 9);
        bad("total pulls1", 1, 11);
        answers(alone(), "first[1=1]or(1)=1and", NOTHING, 1, 17);
        answers(alone(), "first[all]or(1)=joy", NONE + 1);
    }

    private static void answers(AndGuest x, String question, long want, int fault, int place) {
        due(question, Check.ask(x, question), want);
        due("fault(0) of " + question, x.fault(0), fault);
        due("fault(1) of " + question, x.fault(1), place);
    }

    @Says("IV: 4 the 7th of ( [ not pulls that is open at once")
    static void sixOpenOfEachGo() {
        AndGuest x = alone();
        answers(x, "total ((((((5))))))", 5);
        answers(x, "often [[[[[[all]]]]]]", 1);
        answers(x, "often not not not not not not all", 1);
        answers(x, "total pulls pulls pulls pulls pulls pulls 1", 1);
        answers(x, "total min(9,max(1,min(8,max(2,min(7,max(3,4))))))", 4);
        answers(x, "often not [not [pulls (1)=0]]", 1);
    }

    @Says("IV: 4 the 7th of ( [ not pulls that is open at once")
    static void aSeventhOfEachGoesNot() {
        bad("total (((((((5)))))))", 4, 12);
        bad("often [[[[[[[all]]]]]]]", 4, 12);
        bad("often not not not not not not not all", 4, 30);
        bad("total pulls pulls pulls pulls pulls pulls pulls 1", 4, 42);
        bad("total ((((((min(5,6)))))))", 4, 15);
    }

    @Says("IV: 4 the 7th of ( [ not pulls that is open at once")
    static void aSeventhOfAllSortsTogether() {
        bad("often not [not [pulls (max(1,2))=0]]", 4, 26);
        bad("often not [not [pulls (pulls 1)=0]]", 4, 23);
        bad("often [[[[[[not all]]]]]]", 4, 12);
        bad("often [[[[[[pulls 1=1]]]]]]", 4, 12);
        bad("often [[[[[[(1)=1]]]]]]", 4, 12);
        bad("often [[[[[not [all]]]]]]", 4, 15);
        bad("often not not not not not [[all]]", 4, 27);
        bad("often not not not not not pulls pulls 1=1", 4, 32);
        bad("often [[[[[[1=(1)]]]]]]", 4, 14);
    }

    @Says("IV: (not until its FACT, pulls until its PART ends), at it.")
    static void aNotIsOpenUntilItsFactEnds() {
        AndGuest x = alone();
        answers(x, "often not not not not not not all and not not not not not not all", 1);
        answers(x, "often not not not not not not all or [[[[[[all]]]]]]", 1);
        answers(x, "often not not not not not not 1=1 and ((((((1))))))=1", 1);
        bad("often not 1=((((((1))))))", 4, 17);
        answers(x, "often not 1=(((((1)))))", 0);
    }

    @Says("IV: (not until its FACT, pulls until its PART ends), at it.")
    static void aPullsIsOpenUntilItsPartEnds() {
        AndGuest x = alone();
        answers(x, "total pulls 0+((((((1))))))", 2);
        answers(x, "total pulls 0*pulls pulls pulls pulls pulls pulls 0", 0);
        answers(x, "total pulls (0)+pulls (((((0)))))", 2);
        bad("total pulls ((((((0))))))", 4, 17);
        answers(x, "often pulls 0=pulls 0 and pulls 0=1", 1);
    }

    @Says("IV: 4 the 7th of ( [ not pulls that is open at once")
    static void sixOpenWithAllThatMayWaitAhead() {
        String deep = "1+1*max(0,".repeat(6) + "1+1*1" + ")".repeat(6);
        AndGuest x = alone();
        answers(x, "total " + deep, 8);
        answers(x, "often 1=2 or 1=1 and 8=" + deep, 1);
        answers(x, "often 1=2 or 1=1 and 7=" + deep, 0);
        String tests = "1=2 or 1=1 and [".repeat(6) + "1=2 or 1=1 and 2=1+1*1" + "]".repeat(6);
        answers(x, "often " + tests, 1);
        answers(x, "often " + tests.replace("2=1+1*1", "3=1+1*1"), 0);
    }

    @Says("IV: 4 the 7th of ( [ not pulls that is open at once")
    static void closedOnesAreNotOpen() {
        AndGuest x = alone();
        answers(x, "total (1)+(1)+(1)+(1)+(1)+(1)+(1)+(1)", 8);
        answers(x, "often [all] and [all] and [all] and [all] and [all] and [all] and [all] and [all]", 1);
        answers(x, "total max((((((1))))),(((((2))))))", 2);
        answers(x, "often [[[[[[all]]]]]] and [[[[[[1<2]]]]]]", 1);
    }

    @Says("IV: Its FAULTS: 1 as in I")
    static void aQuestionHasNoOtherFaults() {
        bad("total ann", 1, 6);
        bad("often joy>99999", 1, 14);
        answers(alone(), "often joy<9999", 1);
    }

    // ---- IMAGES

    private static void image(AndGuest x, int... ahead) {
        byte[] want = Edges.picture(ahead);
        due("image", x.image(), want.length);
        for (int k = 0; k < want.length; k++) {
            due("octet " + k, x.octet(k), want[k] & 255);
        }
        due("octet behind", x.octet(want.length), NONE);
    }

    @Says("IV: AN IMAGE: WEEK (two bytes, the higher first)")
    static void theWeekInTwoBytes() {
        int[] weeks = {0, 1, 255, 256, 511, 512, 999};
        for (int week : weeks) {
            AndGuest x = Edges.told(HEAD);
            Edges.pass(x, week);
            image(x, week / 256, week % 256, 255, 255);
        }
    }

    @Says("IV: the WEEK of the first card (two bytes; 255, 255 without)")
    static void theWeekOfTheFirstCard() {
        int[] weeks = {0, 1, 255, 256, 999};
        for (int week : weeks) {
            AndGuest x = Edges.told(HEAD + Edges.guest("a", 5, 1, 0, 1));
            Edges.pass(x, week);
            image(x, week / 256, week % 256, 255, 255, 0, 0, 0);
            due("send", x.send(1), 1);
            image(x, week / 256, week % 256, week / 256, week % 256, 1, 0, 0);
        }
    }

    @Says("IV: for each GUEST 0 .. 4, how many WEEKS behind it his card went (two bytes)")
    static void eachGuestInThreeBytes() {
        AndGuest x = Edges.told(HEAD + Edges.guests(7, 5, 1, 0, 1));
        Edges.pass(x, 2);
        due("send", x.send(1), 1);
        Edges.pass(x, 255);
        due("send", x.send(2), 1);
        Edges.pass(x, 1);
        due("send", x.send(4), 1);
        Edges.pass(x, 741);
        due("send", x.send(56), 3);
        due("answer", x.answer(3, 2), true);
        due("answer", x.answer(4, 3), true);
        due("answer", x.answer(5, 4), true);
        image(x, 3, 231, 0, 2, 1, 0, 0, 1, 0, 255, 1, 1, 0, 2, 3, 229, 3, 3, 229, 4, 3, 229, 0, 0, 0);
    }

    @Says("IV: for each GUEST 0 .. 4, how many WEEKS behind it his card went (two bytes)")
    static void noGuestAndEight() {
        image(Edges.told(HEAD), 0, 0, 255, 255);
        image(eight(), 0, 0, 255, 255, 0, 0, 0, 0, 0, 0, 0, 0, 0, 0, 0, 0, 0, 0, 0, 0, 0, 0, 0, 0, 0, 0, 0, 0);
    }

    @Says("IV: last a byte: all ahead from 67 on, c = (3 c + it) mod 251.")
    static void theLastByte() {
        AndGuest x = Edges.told(HEAD);
        // 67, 201, 101, 56, 172
        due("image", x.image(), 5);
        due("last", x.octet(4), 172);
        Edges.pass(x, 255);
        // 67, 201, 105, 68, 208 (858 - 3 * 251 = 105; 570 - 2 * 251 = 68; 459 - 251 = 208)
        due("image", x.image(), 5);
        due("last", x.octet(4), 208);
    }

    @Says("IV: c = (3 c + it) mod 251.")
    static void theLastByteOfEachWeek() {
        AndGuest x = Edges.told(HEAD);
        for (int week = 1; week <= 150; week++) {
            due("on", Edges.on(x, Edges.picture(0, week, 255, 255)), true);
        }
        AndGuest y = Edges.told(HEAD);
        boolean least = false;
        boolean greatest = false;
        for (int week = 0; week < 100; week++) {
            int got = y.image() == 5 ? y.octet(4) : NONE;
            due("last byte in WEEK " + week, got, Edges.picture(0, week, 255, 255)[4] & 255);
            due("week", y.weeks(1), true);
        }
        for (int week = 0; week < 255 && !(least && greatest); week++) {
            byte[] picture = Edges.picture(0, week, 255, 255);
            int last = picture[4] & 255;
            if (last == 0 || last == 250) {
                AndGuest z = Edges.told(HEAD);
                due("last byte " + last, Edges.on(z, picture), true);
                due("image", z.image(), 5);
                due("last byte " + last, z.octet(4), last);
                least |= last == 0;
                greatest |= last == 250;
            }
        }
        due("there was a 0 and a 250", least && greatest, true);
    }

    @Says("IV: c = (3 c + it) mod 251.")
    static void noLastByteOf251AndMore() {
        int looked = 0;
        for (int week = 0; week < 255; week++) {
            byte[] picture = Edges.picture(0, week, 255, 255);
            if ((picture[4] & 255) <= 4) {
                picture[4] += (byte) 251;
                AndGuest x = Edges.told(HEAD);
                due("251 more", Edges.on(x, picture), false);
                looked++;
            }
        }
        due("looked at some", looked > 0, true);
    }
}

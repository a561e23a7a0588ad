/** One method for each promise of the document: ordinary inputs, edges, wrong inputs. */
public final class PromiseTest {
    private static final long NOTHING = AndGuest.NOTHING;
    private static final int NONE = AndGuest.NONE;
    private static final String PARTY = "seats 4 bench 20 plate 10 lack 30;"
            + "guest ann comes 8 joy 30 with 1 slight 20;guest bob comes 5 joy 40 with 0 slight 50;"
            + "guest cid comes 10 joy 10 with 2 slight 5;guest dan comes 2 joy 90 with 0 slight 9;"
            + "pulls ann bob;pulls bob dan;hears bob ann;hears cid ann;hears dan cid;"
            + "late weeks*2+slight/10;maybe 5;soon 60;more 2;";
    private static final String EMPTY = "seats 3 bench 1 plate 2 lack 3;";

    public static void main(String[] args) {
        promise1();
        promise2And3();
        promise4();
        promise5();
        promise6();
        promise7And9();
        promise8();
        promise10And11();
        promise12();
        promise13();
        promise14();
        promise15();
        promise16();
        promise17();
        promise18();
        promise19();
        promise20();
        promise21And22();
        promise23();
        promise24();
        promise25();
        promise26();
        promise27();
        promise28();
        promise29();
        promise30();
        promise31();
        promise32();
        promise33And34();
        promise35();
        promise36();
        emptyWedding();
        wildArguments();
        Check.finish("PromiseTest");
    }

    private static void due(String what, long got, long want) {
        Check.due(what, got, want);
    }

    private static void due(String what, boolean got, boolean want) {
        Check.due(what, got, want);
    }

    private static AndGuest party() {
        return Check.told(PARTY);
    }

    private static void promise1() {
        AndGuest x = new AndGuest();
        due("NONE", NONE, -1);
        due("NOTHING", NOTHING, -1000000000000000L);
        for (int what = 0; what <= 10; what++) {
            due("new has " + what, x.has(what), 0);
        }
        for (int what = 0; what <= 5; what++) {
            due("new status " + what, x.status(what), 0);
        }
        due("new fault(0)", x.fault(0), 0);
        due("new fault(1)", x.fault(1), NONE);
        due("new octet(0)", x.octet(0), NONE);
        due("new would(0)", x.would(0), NOTHING);
        due("new mean", x.mean(), NONE);
        due("new above", x.above(0), NONE);
        due("new plates", x.plates(1), NONE);
        due("new image", x.image(), 5);
        due("new octet(2)", x.octet(2), 255);
    }

    private static void promise2And3() {
        AndGuest x = new AndGuest();
        due("end(0) without bytes", x.end(0), true);
        due("end(1) without bytes", x.end(1), false);
        for (int k = 1; k <= 80; k++) {
            due("feed " + k, x.feed(-1, 0, 1, Integer.MIN_VALUE, k), 20L * k);
        }
        due("feed too many", x.feed(0, 0, 0, 0, 0), NONE);
        due("status(0)", x.status(0), 2);
        due("end(1600)", x.end(1600), true);
        due("end(1601)", x.end(1601), false);
        due("end(-1)", x.end(-1), false);
        due("end(1581)", x.end(1581), true);
        due("feed behind 1581", x.feed(0, 0, 0, 0, 0), NONE);
        due("end(1580)", x.end(1580), true);
        due("feed behind 1580", x.feed(0, 0, 0, 0, 0), 1600);
        due("end least", x.end(Integer.MIN_VALUE), false);
        due("status(0) at last", x.status(0), 6);
        due("end(7)", x.end(7), true);
        due("end(8)", x.end(8), false);
        due("feed behind 7", x.feed(0, 0, 0, 0, 0), 27);
        bytesInOrder();
        longestText();
    }

    private static void bytesInOrder() {
        AndGuest x = Check.told(EMPTY);
        due("feed image", x.feed(0x0000FFFF, 172 << 24, 0, 0, 0), 20);
        due("end(5)", x.end(5), true);
        due("on", x.on(), true);
        due("tape went", x.end(1), false);
    }

    private static void longestText() {
        AndGuest x = new AndGuest();
        String text = EMPTY + " ".repeat(1600 - EMPTY.length());
        due("wedding of 1600", Check.tell(x, text), 1);
        String sum = "total 1" + "+1".repeat(796);
        due("ask of 1599", Check.ask(x, sum), 0);
        due("fault of 1599", x.fault(0), 0);
        String late = EMPTY + "late 1" + "+1".repeat(781) + ";";
        due("late of " + late.length(), Check.tell(x, late), 2);
    }

    private static void promise4() {
        AndGuest x = new AndGuest();
        due("wedding", Check.tell(x, PARTY), 14);
        due("tape went", x.end(1), false);
        x.seed(5);
        due("send", x.send(8), 1);
        due("weeks", x.weeks(7), true);
        x.image();
        due("refused", Check.tell(x, PARTY + "?"), NONE);
        due("tape went when refused", x.end(1), false);
        due("week stays", x.has(3), 7);
        due("acts stay", x.has(10), 2);
        due("again", Check.tell(x, PARTY), 14);
        due("week 0", x.has(3), 0);
        due("none asked", x.has(4), 0);
        due("nothing to undo", x.has(10), 0);
        due("undo", x.undo(), false);
        due("no card", x.guest(3, 7), NONE);
        due("latest image stays", x.octet(1), 7);
        due("refusals stay", x.status(1), 1);
        due("send again", x.send(12), 2);
        due("chance by the seed that stayed", x.chance(1), answeredBySeed5());
        due("others again", Check.tell(x, EMPTY + "guest z comes 1 joy 1 with 0 slight 1;"), 2);
        due("one guest", x.has(0), 1);
        due("no pulls", x.has(1), 0);
        due("far alone", x.far(0), 1);
        due("default soon", Check.tell(x, EMPTY + "guest a comes 10 joy 4 with 0 slight 0;"), 2);
        defaults(x);
    }

    private static int answeredBySeed5() {
        long seed = 5;
        int answered = 0;
        for (int comes : new int[] {10, 2}) {
            seed = (1103515245L * seed + 12345) % (1L << 31);
            if (seed / 64 % 100 < 60) {
                answered++;
                seed = (1103515245L * seed + 12345) % (1L << 31);
            }
        }
        return answered;
    }

    private static void defaults(AndGuest x) {
        x.send(1);
        due("soon is 50", x.answers(1), 500000);
        x.answer(0, 4);
        due("maybe is 5", x.guest(0, 5), 5);
        x.weeks(3);
        due("late is 0", x.offence(), 0);
        AndGuest y = Check.told(EMPTY + "guest a comes 5 joy 4 with 0 slight 0;");
        y.send(1);
        y.answer(0, 2);
        due("more is 2", y.full(), 7000000 / 12);
        due("told twice", Check.tell(y, EMPTY + "guest a comes 1 joy 4 with 0 slight 0;soon 1;soon 7;maybe 1;maybe 9;"), 6);
        y.send(1);
        due("last soon", y.answers(1), 70000);
        y.answer(0, 4);
        due("last maybe", y.guest(0, 5), 9);
    }

    private static void promise5() {
        AndGuest x = new AndGuest();
        Check.tell(x, "seats 41");
        due("fault", x.fault(0), 2);
        due("place", x.fault(1), 6);
        due("fault(2)", x.fault(2), NONE);
        due("fault(-1)", x.fault(-1), NONE);
        due("ask without wedding", Check.ask(x, "?"), NOTHING);
        due("fault stays", x.fault(1), 6);
        Check.tell(x, EMPTY);
        due("no fault", x.fault(0), 0);
        due("no place", x.fault(1), NONE);
        Check.ask(x, "first ?");
        due("ask's fault", x.fault(0), 1);
        due("ask's place", x.fault(1), 6);
        Check.ask(x, "first all");
        due("ask without fault", x.fault(0), 0);
        due("ask without place", x.fault(1), NONE);
    }

    private static void promise6() {
        AndGuest x = party();
        int[] atFirst = {4, 2, 4, 0, 0, 0, 0, 0, 0, 0, 0};
        hasAll(x, atFirst);
        x.send(15);
        hasAll(x, new int[] {4, 2, 4, 0, 4, 4, 0, 0, 0, 7, 1});
        x.answer(0, 2);
        x.answer(1, 3);
        x.answer(2, 4);
        x.weeks(9);
        hasAll(x, new int[] {4, 2, 4, 9, 4, 1, 1, 1, 1, 6, 5});
        due("has(11)", x.has(11), NONE);
        due("has(-1)", x.has(-1), NONE);
        x.answer(2, 3);
        due("most when two come not", x.has(9), 3);
    }

    private static void hasAll(AndGuest x, int[] want) {
        for (int what = 0; what < want.length; what++) {
            due("has " + what, x.has(what), want[what]);
        }
    }

    private static void promise7And9() {
        AndGuest x = Check.told(EMPTY + "guest azbycx comes 1 joy 1 with 0 slight 1;guest q comes 1 joy 1 with 0 slight 1;"
                + "guest r comes 1 joy 1 with 0 slight 1;pulls q r;pulls r azbycx;pulls azbycx q;");
        int[] letters = {1, 26, 2, 25, 3, 24};
        for (int k = 0; k < 6; k++) {
            due("letter 0 " + k, x.letter(0, k), letters[k]);
            due("letter 1 " + k, x.letter(1, k), k == 0 ? 17 : 0);
        }
        due("letter(0, 6)", x.letter(0, 6), NONE);
        due("letter(0, -1)", x.letter(0, -1), NONE);
        due("letter(3, 0)", x.letter(3, 0), NONE);
        due("letter(-1, 0)", x.letter(-1, 0), NONE);
        due("far round", x.far(0), 7);
        due("far round", x.far(2), 7);
        due("far(3)", x.far(3), NONE);
        due("far(-1)", x.far(-1), NONE);
        AndGuest y = party();
        int[] far = {11, 10, 4, 8};
        for (int g = 0; g < 4; g++) {
            due("far " + g, y.far(g), far[g]);
        }
    }

    private static void promise8() {
        AndGuest x = party();
        guestAll(x, 0, new int[] {8, 30, 2, 20, 0, 0, 0, NONE});
        x.weeks(2);
        x.send(11);
        guestAll(x, 0, new int[] {8, 30, 2, 20, 1, 8, 0, 0});
        guestAll(x, 2, new int[] {10, 10, 3, 5, 0, 0, 5, NONE});
        x.weeks(3);
        x.send(4);
        guestAll(x, 2, new int[] {10, 10, 3, 5, 1, 10, 6, 3});
        x.answer(2, 4);
        x.answer(0, 2);
        x.answer(1, 3);
        due("maybe comes by 5", x.guest(2, 5), 5);
        due("offence when maybe", x.guest(2, 6), 6);
        due("coming", x.guest(0, 5), 10);
        due("not coming", x.guest(1, 5), 0);
        due("how", x.guest(1, 4), 3);
        due("guest(0, 8)", x.guest(0, 8), NONE);
        due("guest(0, -1)", x.guest(0, -1), NONE);
        due("guest(4, 0)", x.guest(4, 0), NONE);
        due("guest(-1, 0)", x.guest(-1, 0), NONE);
        offenceBounds("late 0-9999;", 0);
        offenceBounds("late 999;", 999);
        offenceBounds("late 1000;", 999);
        offenceBounds("late 9999*9999;", 999);
        offenceBounds("late weeks*weeks+joy*10+size*100+slight;", 9 + 70 + 200 + 4);
        offenceBounds("", 0);
        offenceBounds("late (0-7)/2+10;", 6);
        offenceBounds("late 7/(weeks-3)+5;", 5);
        offenceBounds("late 2+3*4-6/4;", 13);
        offenceBounds("late 20-5-4;", 11);
        offenceBounds("late 100/7/2*3;", 21);
        offenceBounds("late min(5,weeks)+max(7,weeks);", 10);
        offenceBounds("late 9999*9999-9999*99-9599;", 500);
        offenceBounds("late 9999*9999/2000;", 500);
        offenceBounds("late (0-9999)*9999+9999*9999+8;", 8);
        offenceBounds("late 9999*100+9999-9995*100;", 500);
    }

    private static void guestAll(AndGuest x, int g, int[] want) {
        for (int what = 0; what < want.length; what++) {
            due("guest " + g + " " + what, x.guest(g, what), want[what]);
        }
    }

    private static void offenceBounds(String late, int want) {
        AndGuest x = Check.told(EMPTY + "guest a comes 1 joy 1 with 0 slight 1;guest b comes 1 joy 7 with 1 slight 4;" + late);
        x.weeks(1);
        x.send(1);
        x.weeks(3);
        x.send(2);
        due("offence of " + late, x.guest(1, 6), want);
        due("offence of the first with " + late, x.guest(0, 6), 0);
        due("all offence of " + late, x.offence(), want);
    }

    private static void promise10And11() {
        AndGuest x = party();
        due("none come", x.odds(0), 1000000);
        due("none above", x.above(0), 0);
        x.send(15);
        // Three come for sure; 2 by 0.8, 1 by 0.5, 1 by 0.2.
        int[] just = {0, 0, 0, 80000, 100000, 340000, 400000, 80000};
        int above = 1000000;
        for (int n = 0; n <= 32; n++) {
            int want = n < just.length ? just[n] : 0;
            above -= want;
            due("odds " + n, x.odds(n), want);
            due("above " + n, x.above(n), above);
        }
        due("odds(-1)", x.odds(-1), NONE);
        due("odds(33)", x.odds(33), NONE);
        due("above(-1)", x.above(-1), NONE);
        due("above(33)", x.above(33), NONE);
        AndGuest y = Check.told(EMPTY + eight(1, 3));
        y.send(255);
        due("all eight by a tenth", y.odds(32), 0);
        due("seven of eight", y.odds(28), 0);
        due("above five of eight", y.above(20), 23);
        due("six of eight", y.odds(24), 22);
        AndGuest z = Check.told(EMPTY + eight(10, 3));
        z.send(255);
        due("all for sure", z.odds(32), 1000000);
        due("above 31", z.above(31), 1000000);
        due("above 32", z.above(32), 0);
    }

    private static String eight(int comes, int with) {
        StringBuilder text = new StringBuilder();
        for (char c = 'a'; c <= 'h'; c++) {
            text.append("guest ").append(c).append(" comes ").append(comes).append(" joy 99 with ").append(with)
                    .append(" slight 9;");
        }
        return text.toString();
    }

    private static void promise12() {
        AndGuest x = Check.told(EMPTY + eight(5, 0) + "soon 37;");
        due("none wait", x.answers(0), 1000000);
        due("none wait", x.answers(1), 0);
        x.send(3);
        due("0 of 2", x.answers(0), 396900);
        due("1 of 2", x.answers(1), 466200);
        due("2 of 2", x.answers(2), 136900);
        due("3 of 2", x.answers(3), 0);
        x.send(252);
        // 37^3 * 63^5 * 56 over 100^8, and 37^8.
        due("3 of 8", x.answers(3), 281511);
        due("8 of 8", x.answers(8), 351);
        due("-1", x.answers(-1), NONE);
        due("9", x.answers(9), NONE);
        x.answer(0, 2);
        due("8 of 7", x.answers(8), 0);
        AndGuest y = Check.told(EMPTY + eight(5, 0) + "soon 100;");
        y.send(255);
        due("all for sure", y.answers(8), 1000000);
        due("not fewer", y.answers(7), 0);
        due("no wedding", new AndGuest().answers(0), NONE);
    }

    private static void promise13() {
        AndGuest x = party();
        due("mean of none", x.mean(), 0);
        x.send(15);
        due("mean of all", x.mean(), 530);
        x.answer(0, 3);
        due("mean without ann", x.mean(), 370);
        x.answer(1, 4);
        x.answer(3, 2);
        due("mean with maybe", x.mean(), 450);
        due("no wedding", new AndGuest().mean(), NONE);
    }

    private static void promise14() {
        AndGuest x = party();
        due("worth of none", x.worth(), 0);
        x.send(15);
        due("worth of all", x.worth(), 4440);
        x.answer(0, 3);
        due("worth without ann", x.worth(), 4600);
        due("no wedding", new AndGuest().worth(), NOTHING);
        AndGuest y = Check.told("seats 0 bench 99 plate 0 lack 0;guest a comes 3 joy 0 with 3 slight 0;"
                + "guest b comes 1 joy 0 with 0 slight 77;hears b a;");
        y.send(1);
        due("worth below 0", y.worth(), -(99 * 120 + 7700));
        floorsBelowZero();
    }

    private static void floorsBelowZero() {
        AndGuest x = Check.told("seats 1 bench 1 plate 0 lack 0;guest a comes 3 joy 0 with 0 slight 0;"
                + "guest b comes 1 joy 0 with 0 slight 0;guest c comes 1 joy 0 with 0 slight 0;");
        x.send(3);
        due("-0.03", x.worth(), -3);
        x.send(4);
        // Two of them by 0.3*0.1*0.9*2 + 0.7*0.01, three by 0.003: -(0.061 + 0.006).
        due("-0.067", x.worth(), -7);
    }

    private static void promise15() {
        AndGuest x = party();
        int[] sets = {0, 4, 8, 10, 11, 12, 14, 15};
        int[] worth = {0, 100, 1800, 3800, 5700, 2800, 4600, 4440};
        for (int k = 0; k < sets.length; k++) {
            due("would " + sets[k], x.would(sets[k]), worth[k]);
        }
        for (int set : new int[] {1, 2, 3, 5, 6, 7, 9, 13, 16, 31, -1, Integer.MIN_VALUE, Integer.MAX_VALUE}) {
            due("would not " + set, x.would(set), NOTHING);
        }
        due("would asks none", x.has(4), 0);
        x.send(8);
        due("one was asked", x.would(8), NOTHING);
        due("one was asked, too", x.would(12), NOTHING);
        due("whole now", x.would(2), 3800);
        x.weeks(2);
        due("late now", x.would(2), 3800 - 900);
        due("none", x.would(0), 1800);
        due("no wedding", new AndGuest().would(0), NOTHING);
    }

    private static void promise16() {
        AndGuest x = party();
        due("none asked", x.offence(), 0);
        x.send(12);
        due("dan asked, who hears of cid", x.offence(), 0);
        x.weeks(1);
        x.send(2);
        due("bob late", x.offence(), 2 + 5);
        x.send(1);
        due("ann late", x.offence(), 2 + 5 + 2 + 2);
        x.undo();
        x.undo();
        x.undo();
        x.undo();
        x.send(8);
        due("bob hears of ann alone", x.offence(), 0);
        x.send(2);
        x.send(1);
        due("cid hears of ann", x.offence(), 5);
        x.answer(0, 3);
        due("also when she comes not", x.offence(), 5);
        due("no wedding", new AndGuest().offence(), NONE);
    }

    private static void promise17() {
        due("best", party().best(), 11);
        due("fewest of like ones", Check.told("seats 9 bench 0 plate 0 lack 0;guest a comes 0 joy 9 with 0 slight 0;"
                + "guest b comes 5 joy 0 with 0 slight 0;").best(), 0);
        due("least bits of like ones", Check.told("seats 1 bench 99 plate 0 lack 0;guest a comes 10 joy 9 with 0 slight 0;"
                + "guest b comes 10 joy 9 with 0 slight 0;guest c comes 10 joy 9 with 0 slight 0;").best(), 1);
        due("fewer ahead of least bits", Check.told("seats 9 bench 0 plate 0 lack 0;guest a comes 10 joy 4 with 0 slight 0;"
                + "guest b comes 10 joy 5 with 0 slight 0;guest c comes 10 joy 9 with 0 slight 0;"
                + "hears a c;hears b c;hears c b;late 9;pulls a b;").best(), 7);
        AndGuest tie = Check.told("seats 1 bench 99 plate 0 lack 0;guest a comes 10 joy 4 with 0 slight 0;"
                + "guest b comes 10 joy 5 with 0 slight 0;guest c comes 10 joy 50 with 0 slight 0;guest d comes 10 joy 50 with 1 slight 0;");
        due("one of many", tie.best(), 4);
        AndGuest x = party();
        x.send(8);
        due("best of the rest", x.best(), 3);
        x.send(3);
        due("none of the rest", x.best(), 0);
        due("no wedding", new AndGuest().best(), NONE);
        bestAsTold();
    }

    /** WORTH that differs by less than a hundredth is alike, as it is told. */
    private static void bestAsTold() {
        AndGuest x = Check.told("seats 2 bench 11 plate 0 lack 0;guest a comes 3 joy 5 with 0 slight 0;"
                + "guest b comes 3 joy 5 with 0 slight 0;guest c comes 1 joy 1 with 0 slight 0;");
        due("two", x.would(3), 300);
        // 3 + 0.1 - 11 * 0.3 * 0.3 * 0.1 = 3.001
        due("three", x.would(7), 300);
        due("the fewer", x.best(), 3);
        due("left out for nothing", x.leave(2), 0);
        AndGuest y = Check.told("seats 2 bench 10 plate 0 lack 0;guest a comes 3 joy 5 with 0 slight 0;"
                + "guest b comes 3 joy 5 with 0 slight 0;guest c comes 1 joy 1 with 0 slight 0;");
        due("a hundredth more", y.would(7), 301);
        due("the three", y.best(), 7);
        due("left out for a hundredth", y.leave(2), 1);
    }

    private static void promise18() {
        AndGuest x = party();
        due("safe", x.safe(0), 10);
        due("its offence", x.safe(1), 0);
        due("its joy", x.safe(2), 130);
        x.send(12);
        x.answer(3, 3);
        due("as if none was asked", x.safe(0), 10);
        due("safe(3)", x.safe(3), NONE);
        due("safe(-1)", x.safe(-1), NONE);
        due("no wedding", new AndGuest().safe(0), NONE);
        AndGuest y = Check.told("seats 2 bench 0 plate 0 lack 0;guest a comes 0 joy 5 with 0 slight 1;"
                + "guest b comes 0 joy 5 with 0 slight 1;guest c comes 0 joy 5 with 0 slight 1;guest d comes 0 joy 10 with 2 slight 1;");
        due("least bits", y.safe(0), 3);
        due("joy although none is likely", y.safe(2), 10);
        AndGuest z = Check.told("seats 2 bench 0 plate 0 lack 0;guest a comes 0 joy 50 with 0 slight 1;"
                + "guest b comes 0 joy 5 with 1 slight 1;guest c comes 0 joy 1 with 0 slight 1;hears b a;hears a c;pulls c b;");
        due("least offence ahead of joy", z.safe(0), 2);
        due("seats to the last", z.safe(2), 5);
    }

    private static void promise19() {
        AndGuest x = party();
        int[] want = {1100, 2900, 0, 5600};
        for (int g = 0; g < 4; g++) {
            due("leave " + g, x.leave(g), want[g]);
        }
        due("leave(4)", x.leave(4), NONE);
        due("leave(-1)", x.leave(-1), NONE);
        x.send(8);
        due("leave who is asked", x.leave(3), NONE);
        due("leave bob", x.leave(1), x.would(3) - x.would(4));
        due("no wedding", new AndGuest().leave(0), NONE);
    }

    private static void promise20() {
        AndGuest x = party();
        int[] want = {0, 4, 4, 4, 15, 15, NONE};
        for (int n = 0; n < want.length; n++) {
            due("enough " + n, x.enough(n), want[n]);
        }
        due("enough(32)", x.enough(32), NONE);
        due("enough(33)", x.enough(33), NONE);
        due("enough(-1)", x.enough(-1), NONE);
        x.send(4);
        due("asked count", x.enough(3), 0);
        due("with the rest", x.enough(5), 11);
        x.answer(2, 3);
        due("who come not count not", x.enough(2), 11);
        due("exactly", x.enough(0), 0);
        AndGuest y = Check.told(EMPTY + eight(5, 0));
        due("least bits", y.enough(1), 3);
        due("half of eight", y.enough(4), 255);
        due("no more", y.enough(5), NONE);
        due("thirty-two", Check.told(EMPTY + eight(10, 3)).enough(32), 255);
        due("no wedding", new AndGuest().enough(0), NONE);
    }

    private static void promise21And22() {
        AndGuest x = party();
        due("order 0 of none", x.order(0), 0);
        due("order 32", x.order(32), 32000);
        due("plates of none", x.plates(0), 0);
        x.send(15);
        int[] want = {15900, 13900, 11900, 9900, 8140, 6680, 6240, 7000, 8000};
        for (int n = 0; n < want.length; n++) {
            due("order " + n, x.order(n), want[n]);
        }
        due("plates", x.plates(0), 6);
        due("their cost", x.plates(1), 6240);
        due("plates(2)", x.plates(2), NONE);
        due("plates(-1)", x.plates(-1), NONE);
        due("order(33)", x.order(33), NONE);
        due("order(-1)", x.order(-1), NONE);
        due("no wedding", new AndGuest().order(0), NONE);
        due("no wedding", new AndGuest().plates(0), NONE);
        AndGuest y = Check.told("seats 1 bench 0 plate 1 lack 2;guest a comes 5 joy 1 with 0 slight 0;guest b comes 1 joy 1 with 0 slight 0;");
        y.send(1);
        due("least of like ones", y.plates(0), 0);
        due("its cost", y.plates(1), 100);
        y.send(2);
        // At one plate 1 + 2 * 0.05, at none 2 * 0.6.
        due("one more", y.plates(0), 1);
        due("its cost", y.plates(1), 110);
        AndGuest z = Check.told("seats 1 bench 0 plate 0 lack 99;" + eight(10, 3));
        z.send(255);
        due("thirty-two", z.plates(0), 32);
        due("for nothing", z.plates(1), 0);
        due("dear", z.order(0), 99 * 3200);
    }

    private static void promise23() {
        AndGuest x = party();
        due("none to ring", x.ring(0), NONE);
        due("none to ring", x.ring(1), NONE);
        x.send(15);
        // With her 6 plates cost 63 by 0.8, without her 4 cost 43 by 0.2.
        due("ring", x.ring(0), 0);
        due("ring's cost", x.ring(1), 5900);
        due("ring(2)", x.ring(2), NONE);
        due("ring(-1)", x.ring(-1), NONE);
        x.answer(0, 2);
        due("not who is sure", x.ring(0), 1);
        x.answer(1, 4);
        due("who is maybe", x.ring(0), 1);
        x.answer(1, 3);
        x.answer(3, 3);
        due("the last who waits", x.ring(0), 2);
        x.answer(2, 2);
        due("none waits", x.ring(0), NONE);
        due("no wedding", new AndGuest().ring(0), NONE);
    }

    private static void promise24() {
        AndGuest x = party();
        due("none said anything", x.full(), 500000);
        x.send(15);
        x.answer(0, 2);
        due("ann comes: 8 or 10", x.full(), 10000000 / 18);
        x.answer(1, 3);
        due("bob not: 5 or 3", x.full(), 30000000 / 70);
        x.answer(3, 4);
        due("maybe tells nothing", x.full(), 30000000 / 70);
        x.answer(3, 2);
        due("dan comes: 2 or 4", x.full(), 120000000 / 200);
        x.answer(0, 3);
        due("ann not: 2 or 0", x.full(), 0);
        x.answer(2, 3);
        due("neither can be", x.full(), 500000);
        due("no wedding", new AndGuest().full(), NONE);
        AndGuest y = Check.told(EMPTY + "guest a comes 0 joy 1 with 0 slight 0;");
        y.send(1);
        y.answer(0, 2);
        due("full alone can be", y.full(), 1000000);
        AndGuest z = Check.told(EMPTY + "guest a comes 9 joy 1 with 0 slight 0;more 1;");
        z.send(1);
        z.answer(0, 3);
        due("as told alone can be", z.full(), 0);
    }

    private static void promise25() {
        AndGuest x = Check.told(EMPTY + "guest a comes 0 joy 5 with 0 slight 0;guest b comes 0 joy 5 with 0 slight 1;"
                + "guest c comes 0 joy 10 with 1 slight 0;guest d comes 0 joy 0 with 3 slight 0;pulls c a;");
        due("two sets", x.seen(2, 10, 0), 2);
        due("in all", x.seen(2, 10, 1), 0);
        due("in some", x.seen(2, 10, 2), 7);
        due("one of two", x.seen(5, 5, 0), 2);
        due("d in both", x.seen(5, 5, 1), 8);
        due("others in some", x.seen(5, 5, 2), 11);
        due("no set", x.seen(32, 792, 0), 0);
        due("no set, in all", x.seen(32, 792, 1), 0);
        due("no set, in some", x.seen(32, 792, 2), 0);
        due("none sat", x.seen(0, 0, 0), 1);
        x.send(8);
        x.answer(3, 3);
        due("of all guests, whoever answered", x.seen(5, 5, 0), 2);
        due("sat 33", x.seen(33, 0, 0), NONE);
        due("sat -1", x.seen(-1, 0, 0), NONE);
        due("joy 793", x.seen(0, 793, 0), NONE);
        due("joy -1", x.seen(0, -1, 0), NONE);
        due("what 3", x.seen(0, 0, 3), NONE);
        due("what -1", x.seen(0, 0, -1), NONE);
        due("no wedding", new AndGuest().seen(0, 0, 0), NONE);
        AndGuest y = Check.told(EMPTY + eight(1, 3));
        due("all eight", y.seen(32, 792, 1), 255);
        due("four of eight", y.seen(16, 396, 0), 70);
    }

    private static void promise26() {
        AndGuest x = party();
        for (int set : new int[] {0, 1, 2, 3, 16, 27, -1, Integer.MIN_VALUE}) {
            due("send not " + set, x.send(set), NONE);
        }
        due("refused", x.status(2), 8);
        due("nothing kept", x.has(10), 0);
        due("send dan", x.send(8), 1);
        due("send bob, as dan was asked", x.send(2), 1);
        due("send dan again", x.send(8), NONE);
        due("send ann, cid", x.send(5), 2);
        due("refused", x.status(2), 9);
        due("all asked", x.has(4), 4);
        due("no wedding", new AndGuest().send(0), NONE);
    }

    private static void promise27() {
        AndGuest x = party();
        due("not asked", x.answer(3, 2), false);
        x.send(8);
        due("how 1", x.answer(3, 1), false);
        due("how 0", x.answer(3, 0), false);
        due("how 5", x.answer(3, 5), false);
        due("coming", x.answer(3, 2), true);
        due("said so already", x.answer(3, 2), false);
        due("otherwise", x.answer(3, 3), true);
        due("maybe", x.answer(3, 4), true);
        due("maybe again", x.answer(3, 4), false);
        due("guest 4", x.answer(4, 2), false);
        due("guest -1", x.answer(-1, 2), false);
        due("refused", x.status(2), 8);
        due("acts", x.has(10), 4);
        due("how", x.guest(3, 4), 4);
    }

    private static void promise28() {
        AndGuest x = party();
        due("0 weeks", x.weeks(0), false);
        due("100 weeks", x.weeks(100), false);
        due("-1 weeks", x.weeks(-1), false);
        for (int k = 0; k < 10; k++) {
            due("99 weeks", x.weeks(99), true);
        }
        due("10 weeks more", x.weeks(10), false);
        due("9 weeks more", x.weeks(9), true);
        due("week 999", x.has(3), 999);
        due("no week more", x.weeks(1), false);
        due("nor by the seed", x.chance(1), NONE);
        due("refused", x.status(3), 6);
        due("acts", x.has(10), 11);
        AndGuest y = party();
        y.send(15);
        y.weeks(99);
        due("none answered", y.has(5), 4);
        due("no draws", y.chance(1), seedOne());
        due("no wedding", new AndGuest().weeks(1), false);
    }

    /** How many of the four answer in the first WEEK by the seed 1. */
    private static int seedOne() {
        long seed = 1;
        int answered = 0;
        for (int g = 0; g < 4; g++) {
            seed = (1103515245L * seed + 12345) % (1L << 31);
            if (seed / 64 % 100 < 60) {
                answered++;
                seed = (1103515245L * seed + 12345) % (1L << 31);
            }
        }
        return answered;
    }

    private static void promise29() {
        AndGuest x = party();
        due("0 weeks", x.chance(0), NONE);
        due("100 weeks", x.chance(100), NONE);
        due("refused", x.status(3), 2);
        due("none waits", x.chance(99), 0);
        due("weeks went", x.has(3), 99);
        x.send(15);
        due("all answer in the end", x.chance(99), 4);
        due("cid comes, ten of ten", x.guest(2, 4), 2);
        due("acts", x.has(10), 3);
        due("nobody left", x.chance(5), 0);
        due("no wedding", new AndGuest().chance(1), NONE);
        AndGuest y = Check.told(EMPTY + eight(0, 0) + "soon 100;");
        y.send(255);
        due("all at once", y.chance(1), 8);
        due("none coming", y.has(7), 8);
        AndGuest z = Check.told(EMPTY + eight(5, 0) + "soon 0;");
        z.send(255);
        due("never", z.chance(99), 0);
        drawByDraw();
    }

    private static void drawByDraw() {
        AndGuest x = Check.told(EMPTY + eight(5, 0) + "soon 45;");
        x.seed(20260101);
        x.send(255);
        long seed = 20260101;
        int[] how = {1, 1, 1, 1, 1, 1, 1, 1};
        for (int week = 1; week <= 6; week++) {
            int answered = 0;
            for (int g = 0; g < 8; g++) {
                if (how[g] == 1) {
                    seed = (1103515245L * seed + 12345) % (1L << 31);
                    if (seed / 64 % 100 < 45) {
                        seed = (1103515245L * seed + 12345) % (1L << 31);
                        how[g] = seed / 64 % 10 < 5 ? 2 : 3;
                        answered++;
                    }
                }
            }
            due("week " + week, x.chance(1), answered);
            for (int g = 0; g < 8; g++) {
                due("week " + week + " guest " + g, x.guest(g, 4), how[g]);
            }
        }
    }

    private static void promise30() {
        AndGuest x = party();
        due("none", x.undo(), false);
        x.weeks(4);
        x.send(8);
        x.answer(3, 2);
        x.answer(3, 3);
        due("undo answer", x.undo(), true);
        due("coming again", x.guest(3, 4), 2);
        x.undo();
        due("waits again", x.guest(3, 4), 1);
        x.undo();
        due("not asked again", x.has(4), 0);
        due("no card again", x.guest(3, 7), NONE);
        x.undo();
        due("week 0 again", x.has(3), 0);
        due("no more", x.undo(), false);
        due("refused", x.status(4), 2);
        for (int k = 0; k < 25; k++) {
            x.weeks(1);
        }
        due("twenty acts", x.has(10), 20);
        for (int k = 0; k < 20; k++) {
            due("undo " + k, x.undo(), true);
            due("week behind undo " + k, x.has(3), 24 - k);
        }
        due("not the 21st", x.undo(), false);
        due("week 5", x.has(3), 5);
        seedStays();
    }

    private static void seedStays() {
        AndGuest x = Check.told(EMPTY + eight(5, 0) + "soon 45;");
        AndGuest y = Check.told(EMPTY + eight(5, 0) + "soon 45;");
        x.send(255);
        y.send(255);
        x.chance(1);
        y.chance(1);
        x.undo();
        y.undo();
        y.seed(1);
        boolean unlike = false;
        x.chance(1);
        y.chance(1);
        for (int g = 0; g < 8; g++) {
            unlike |= x.guest(g, 4) != y.guest(g, 4);
        }
        due("the seed is not undone", unlike, true);
    }

    private static void promise31() {
        AndGuest x = new AndGuest();
        due("seed 0", x.seed(0), true);
        due("seed greatest", x.seed(Integer.MAX_VALUE), true);
        due("seed -1", x.seed(-1), false);
        due("seed least", x.seed(Integer.MIN_VALUE), false);
        due("refused", x.status(5), 2);
        AndGuest y = Check.told(EMPTY + eight(5, 0));
        AndGuest z = Check.told(EMPTY + eight(5, 0));
        y.send(255);
        z.send(255);
        z.seed(1);
        z.seed(-7);
        due("1 at first", y.chance(3), z.chance(3));
        for (int g = 0; g < 8; g++) {
            due("1 at first, guest " + g, y.guest(g, 4), z.guest(g, 4));
        }
        due("no act", y.has(10), 2);
    }

    private static void promise32() {
        AndGuest x = party();
        ask(x, "first joy>50", 3);
        ask(x, "last size=1", 3);
        ask(x, "often size=1", 2);
        ask(x, "first joy>99", NONE);
        ask(x, "last not all", NONE);
        ask(x, "often not all", 0);
        ask(x, "total joy", 170);
        ask(x, "most joy*size", 90);
        ask(x, "least 0-joy*size", -90);
        ask(x, "total 9999*9999", 4000000);
        ask(x, "total (0-9999)*9999", -4000000);
        ask(x, "most 9999*9999+9999", 1000000);
        ask(x, "most 9999*9999-1", 999999);
        ask(x, "least 0-7/2", -3);
        ask(x, "least (0-7)/2", -4);
        ask(x, "least 7/(0-2)", -4);
        ask(x, "least 7/0", 0);
        ask(x, "total comes", 25);
        ask(x, "total how", 0);
        ask(x, "total pulls 0", 3);
        ask(x, "total pulls number", 4);
        ask(x, "total pulls (0-1)", 0);
        ask(x, "total pulls 4", 0);
        ask(x, "total pulls pulls 0", 2);
        ask(x, "first 1=2 or 1=1 and number=2", 2);
        ask(x, "first [1=2 or 1=1] and number<1", 0);
        ask(x, "often not joy>30 and size>1", 2);
        ask(x, "often not [joy>30 and size>1]", 4);
        ask(x, "total min(joy,20)+max(slight,10)", 20 + 20 + 10 + 20 + 20 + 50 + 10 + 10);
        x.send(11);
        x.weeks(6);
        x.send(4);
        x.answer(0, 4);
        x.answer(1, 2);
        x.answer(3, 3);
        ask(x, "total weeks", 6);
        ask(x, "total how", 4 + 2 + 1 + 3);
        ask(x, "total comes", 5 + 10 + 10);
        ask(x, "first how=3", 3);
        askWrong(x);
    }

    private static void ask(AndGuest x, String text, long want) {
        due(text, Check.ask(x, text), want);
        due("fault of " + text, x.fault(0), 0);
    }

    private static void askWrong(AndGuest x) {
        due("wrong", Check.ask(x, "first joy"), NOTHING);
        due("tape went", x.end(1), false);
        AndGuest y = new AndGuest();
        due("no wedding", Check.ask(y, "first all"), NOTHING);
        due("tape went without a wedding", y.end(1), false);
        due("fault(0)", y.fault(0), 0);
    }

    private static void promise33And34() {
        AndGuest x = party();
        x.weeks(99);
        x.weeks(99);
        x.weeks(99);
        x.send(8);
        x.weeks(99);
        x.weeks(99);
        x.weeks(99);
        x.send(6);
        x.answer(1, 4);
        int[] want = {2, 82, 1, 41, 0, 0, 0, 4, 1, 41, 1, 1, 41, 1, 0, 0, 0};
        int check = 67;
        for (int k = 0; k < 16; k++) {
            check = (3 * check + want[k]) % 251;
        }
        want[16] = check;
        due("image", x.image(), 17);
        for (int k = 0; k < 17; k++) {
            due("octet " + k, x.octet(k), want[k]);
        }
        due("octet(17)", x.octet(17), NONE);
        due("octet(-1)", x.octet(-1), NONE);
        x.undo();
        due("the latest image stays", x.octet(7), 4);
        x.image();
        due("until the next", x.octet(7), 1);
        AndGuest y = Check.told(EMPTY + eight(1, 1));
        due("no image yet", y.octet(0), NONE);
        due("image of eight", y.image(), 29);
        due("255", y.octet(3), 255);
    }

    private static byte[] picture(int... bytes) {
        byte[] all = new byte[bytes.length + 1];
        for (int k = 0; k < bytes.length; k++) {
            all[k] = (byte) bytes[k];
        }
        Model.check(all);
        return all;
    }

    private static byte[] checked(byte[] picture) {
        Model.check(picture);
        return picture;
    }

    private static void on(AndGuest x, boolean want, String why, byte[] picture) {
        int refused = x.status(5);
        Check.put(x, picture);
        due("on: " + why, x.on(), want);
        due("status: " + why, x.status(5), refused + (want ? 0 : 1));
        due("tape: " + why, x.end(1), false);
    }

    private static void promise35() {
        String two = EMPTY + "guest a comes 1 joy 1 with 1 slight 1;guest b comes 1 joy 1 with 1 slight 1;pulls a b;";
        AndGuest x = Check.told(two);
        x.weeks(1);
        on(x, true, "all", picture(0, 9, 0, 2, 1, 0, 0, 4, 0, 7));
        due("week", x.has(3), 9);
        due("nothing to undo", x.has(10), 0);
        due("a waits", x.guest(0, 4), 1);
        due("a first", x.guest(0, 7), 0);
        due("b maybe", x.guest(1, 4), 4);
        due("b late", x.guest(1, 7), 7);
        on(x, false, "card behind the WEEK", picture(0, 9, 0, 2, 1, 0, 0, 4, 0, 8));
        on(x, false, "no first card", picture(0, 9, 0, 2, 1, 0, 1, 4, 0, 7));
        on(x, false, "first behind the WEEK", picture(0, 9, 0, 10, 1, 0, 0, 0, 0, 0));
        on(x, false, "without a first, one asked", picture(0, 9, 255, 255, 1, 0, 0, 0, 0, 0));
        on(x, false, "with a first, none asked", picture(0, 9, 0, 9, 0, 0, 0, 0, 0, 0));
        on(x, false, "not asked with WEEKS", picture(0, 9, 0, 2, 1, 0, 0, 0, 0, 1));
        on(x, false, "how 5", picture(0, 9, 0, 2, 1, 0, 0, 5, 0, 0));
        on(x, false, "how 255", picture(0, 9, 0, 2, 1, 0, 0, 255, 0, 0));
        on(x, false, "WEEK 1000", picture(3, 232, 0, 2, 1, 0, 0, 2, 0, 0));
        on(x, false, "too short", picture(0, 9, 0, 2, 1, 0, 0));
        on(x, false, "too long", picture(0, 9, 0, 2, 1, 0, 0, 4, 0, 7, 0, 0, 0));
        on(x, false, "nothing", new byte[0]);
        byte[] spoilt = picture(0, 9, 0, 2, 1, 0, 0, 4, 0, 7);
        spoilt[10]++;
        on(x, false, "wrong last byte", spoilt);
        due("all stays", x.has(3), 9);
        due("all stays", x.guest(1, 7), 7);
        on(x, true, "WEEK 999", picture(3, 231, 3, 231, 2, 0, 0, 3, 0, 0));
        due("no week more", x.weeks(1), false);
        on(x, true, "none asked", picture(0, 4, 255, 255, 0, 0, 0, 0, 0, 0));
        due("none asked", x.has(4), 0);
        on(x, true, "a without whom he pulls", picture(0, 4, 0, 1, 1, 0, 0, 0, 0, 0));
        due("b alone may be asked", x.would(2) != NOTHING, true);
        AndGuest y = new AndGuest();
        on(y, false, "no wedding", picture(0, 0, 255, 255));
        AndGuest z = Check.told(EMPTY);
        on(z, true, "no guests", picture(0, 7, 255, 255));
        due("week 7", z.has(3), 7);
        AndGuest w = Check.told(EMPTY + eight(1, 0));
        byte[] all = new byte[29];
        for (int g = 0; g < 8; g++) {
            all[4 + 3 * g] = 1;
        }
        on(w, true, "all eight", checked(all));
        Check.tell(w, two);
        on(w, true, "none of two behind all of eight", picture(0, 7, 255, 255, 0, 0, 0, 0, 0, 0));
        staysWhenRefused();
    }

    private static void staysWhenRefused() {
        AndGuest x = party();
        x.send(8);
        x.seed(77);
        on(x, false, "garbage", new byte[] {1, 2, 3});
        due("act stays", x.has(10), 1);
        due("undo", x.undo(), true);
    }

    private static void promise36() {
        AndGuest x = new AndGuest();
        x.end(1);
        x.wedding();
        x.wedding();
        x.send(1);
        x.answer(0, 2);
        x.send(0);
        x.weeks(1);
        x.chance(1);
        x.weeks(0);
        x.chance(0);
        for (int k = 0; k < 5; k++) {
            x.undo();
        }
        x.seed(-1);
        for (int k = 0; k < 5; k++) {
            x.on();
        }
        x.ask();
        for (int what = 0; what <= 5; what++) {
            due("status " + what, x.status(what), what + 1);
        }
        due("status(6)", x.status(6), NONE);
        due("status(-1)", x.status(-1), NONE);
    }

    private static void emptyWedding() {
        AndGuest x = Check.told(EMPTY);
        due("odds", x.odds(0), 1000000);
        due("mean", x.mean(), 0);
        due("worth", x.worth(), 0);
        due("would(0)", x.would(0), 0);
        due("would(1)", x.would(1), NOTHING);
        due("offence", x.offence(), 0);
        due("best", x.best(), 0);
        due("safe", x.safe(0), 0);
        due("enough(0)", x.enough(0), 0);
        due("enough(1)", x.enough(1), NONE);
        due("order(3)", x.order(3), 600);
        due("plates", x.plates(0), 0);
        due("ring", x.ring(0), NONE);
        due("full", x.full(), 500000);
        due("seen(0, 0, 0)", x.seen(0, 0, 0), 1);
        due("seen(0, 0, 2)", x.seen(0, 0, 2), 0);
        due("send(0)", x.send(0), NONE);
        due("chance(1)", x.chance(1), 0);
        due("first all", Check.ask(x, "first all"), NONE);
        due("often all", Check.ask(x, "often all"), 0);
        due("total 7", Check.ask(x, "total 7"), 0);
        due("most 7", Check.ask(x, "most 7"), 0);
        due("least 7", Check.ask(x, "least 7"), 0);
        due("image", x.image(), 5);
    }

    /** No call may throw, whatever its arguments. */
    private static void wildArguments() {
        int[] wild = {Integer.MIN_VALUE, -1000000, -33, -1, 8, 256, 1000000, Integer.MAX_VALUE};
        for (String text : new String[] {"", EMPTY, PARTY, EMPTY + eight(5, 3)}) {
            for (int a : wild) {
                AndGuest x = new AndGuest();
                Check.tell(x, text);
                x.send(8);
                x.feed(a, a, a, a, a);
                due("end", x.end(a), a == 8);
                x.wedding();
                x.ask();
                x.on();
                due("fault", x.fault(a), NONE);
                due("has", x.has(a), a == 8 ? x.has(8) : NONE);
                due("letter", x.letter(a, a), NONE);
                due("guest", x.guest(a, a), NONE);
                due("far", x.far(a), NONE);
                due("would", x.would(a), NOTHING);
                due("safe", x.safe(a), NONE);
                due("leave", x.leave(a), NONE);
                due("plates", x.plates(a), NONE);
                due("ring", x.ring(a), NONE);
                due("seen", x.seen(a, a, a), NONE);
                due("send", x.send(a), NONE);
                due("answer", x.answer(a, a), false);
                due("octet", x.octet(a), NONE);
                due("status", x.status(a), NONE);
                if (a != 8) {
                    due("odds", x.odds(a), NONE);
                    due("above", x.above(a), NONE);
                    due("answers", x.answers(a), NONE);
                    due("enough", x.enough(a), NONE);
                    due("order", x.order(a), NONE);
                    due("weeks", x.weeks(a), x.has(3) > 0);
                    due("chance", x.chance(a) == NONE, x.has(3) == 0);
                }
            }
        }
    }
}

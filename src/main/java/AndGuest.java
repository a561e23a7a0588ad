/** A wedding told as a text: cards in lots, answers, odds, plates, questions, images. */
public final class AndGuest {
    public static final int NONE = -1;
    public static final long NOTHING = -1000000000000000L;

    private static final int MOST_BYTES = 1600;
    private static final int MOST_GUESTS = 8;
    private static final int MOST_HEADS = 32;
    private static final int MOST_JOY = 792;
    private static final int MOST_WEEK = 999;
    private static final int MOST_WEEKS_AT_ONCE = 99;

    private static final int NOT_ASKED = 0;
    private static final int WAITING = 1;
    private static final int COMING = 2;
    private static final int NOT_COMING = 3;
    private static final int MAYBE = 4;

    private static final int SURE = 10;
    private static final int MILLION = 1000000;

    private static final int FAULT_TEXT = 1;
    private static final int FAULT_NUMBER = 2;
    private static final int FAULT_NAME = 3;
    private static final int FAULT_DEPTH = 4;
    private static final int FAULT_MANY = 5;

    private static final int REFUSED_TAPE = 0;
    private static final int REFUSED_WEDDING = 1;
    private static final int REFUSED_CARDS = 2;
    private static final int REFUSED_WEEKS = 3;
    private static final int REFUSED_UNDO = 4;
    private static final int REFUSED_STATE = 5;

    private final Tape tape;
    private final Tape picture;
    private final Reader reader;
    private final PlanReader planReader;
    private final Formula question;
    private final Standing standing;
    private final Standing spare;
    private final Past past;
    private final Party party;
    private final Choices choices;
    private final int[] refused;
    private Plan draft;
    private boolean told;
    private int drawn;
    private int latestFault;
    private int latestPlace;

    public AndGuest() {
        tape = new Tape(MOST_BYTES);
        picture = new Tape(Standing.imageSize(MOST_GUESTS));
        reader = new Reader(tape);
        planReader = new PlanReader(reader);
        question = new Formula();
        standing = new Standing();
        spare = new Standing();
        past = new Past();
        party = new Party(standing);
        choices = new Choices(party);
        refused = new int[REFUSED_STATE + 1];
        draft = new Plan();
        told = false;
        drawn = 1;
        latestFault = 0;
        latestPlace = NONE;
    }

    // ---- the tape, the wedding

    public int feed(int a, int b, int c, int d, int e) {
        if (tape.size() + 20 > MOST_BYTES) {
            refuse(REFUSED_TAPE);
            return NONE;
        }
        tape.putFour(a);
        tape.putFour(b);
        tape.putFour(c);
        tape.putFour(d);
        tape.putFour(e);
        return tape.size();
    }

    public boolean end(int n) {
        if (n < 0 || n > tape.size()) {
            refuse(REFUSED_TAPE);
            return false;
        }
        tape.cut(n);
        return true;
    }

    public int wedding() {
        int statements = planReader.readInto(draft);
        closeReading();
        if (latestFault != 0) {
            refuse(REFUSED_WEDDING);
            return NONE;
        }
        draft = party.adopt(draft);
        standing.clear();
        past.clear();
        told = true;
        return statements;
    }

    public int fault(int what) {
        switch (what) {
            case 0: return latestFault;
            case 1: return latestPlace;
            default: return NONE;
        }
    }

    public int has(int what) {
        Plan plan = party.plan();
        switch (what) {
            case 0: return plan.guests;
            case 1: return plan.pullsTold;
            case 2: return plan.seats;
            case 3: return standing.week;
            case 4: return Integer.bitCount(standing.askedSet());
            case 5: return standing.countOf(WAITING);
            case 6: return standing.countOf(COMING);
            case 7: return standing.countOf(NOT_COMING);
            case 8: return standing.countOf(MAYBE);
            case 9: return party.mostHeads();
            case 10: return past.size();
            default: return NONE;
        }
    }

    public int letter(int guest, int k) {
        if (!isGuest(guest) || k < 0 || k >= Word.MOST_LETTERS) {
            return NONE;
        }
        return Word.letterOf(party.plan().names[guest], k);
    }

    public int guest(int guest, int what) {
        if (!isGuest(guest)) {
            return NONE;
        }
        Plan plan = party.plan();
        switch (what) {
            case 0: return plan.comes[guest];
            case 1: return plan.joys[guest];
            case 2: return plan.sizes[guest];
            case 3: return plan.slights[guest];
            case 4: return standing.how[guest];
            case 5: return party.comesNow(guest);
            case 6: return party.offenceNow(guest);
            case 7: return standing.isAsked(guest) ? standing.behind[guest] : NONE;
            default: return NONE;
        }
    }

    public int far(int guest) {
        return isGuest(guest) ? party.plan().farSets[guest] : NONE;
    }

    // ---- odds

    public int odds(int n) {
        if (!told || n < 0 || n > MOST_HEADS) {
            return NONE;
        }
        return (int) (party.crowdNow().justMillionths(n));
    }

    public int above(int n) {
        if (!told || n < 0 || n > MOST_HEADS) {
            return NONE;
        }
        return (int) (party.crowdNow().moreMillionths(n));
    }

    public int answers(int n) {
        if (!told || n < 0 || n > MOST_GUESTS) {
            return NONE;
        }
        return (int) (Crowd.someOf(standing.countOf(WAITING), n, party.plan().soon));
    }

    public int mean() {
        return told ? party.meanTenths(0) * 10 : NONE;
    }

    public long worth() {
        if (!told) {
            return NOTHING;
        }
        party.weighCards();
        return party.worthWith(0);
    }

    public long would(int set) {
        if (!told || !party.canAsk(set)) {
            return NOTHING;
        }
        party.weighCards();
        return party.worthWith(set);
    }

    public int offence() {
        if (!told) {
            return NONE;
        }
        party.weighCards();
        return party.offenceWith(0);
    }

    // ---- whom to ask

    public int best() {
        return told ? choices.findBest(0) : NONE;
    }

    public int safe(int what) {
        if (!told || what < 0 || what > 2) {
            return NONE;
        }
        choices.findSafe();
        switch (what) {
            case 0: return choices.safeSet();
            case 1: return choices.safeOffence();
            default: return choices.safeJoy();
        }
    }

    public int leave(int guest) {
        if (!isGuest(guest) || standing.isAsked(guest)) {
            return NONE;
        }
        choices.findBest(0);
        long free = choices.bestWorth();
        choices.findBest(1 << guest);
        return (int) (free - choices.bestWorth());
    }

    public int enough(int n) {
        if (!told || n < 0 || n > MOST_HEADS) {
            return NONE;
        }
        return choices.findEnough(n);
    }

    // ---- plates, whom to ring, the year

    public int order(int n) {
        if (!told || n < 0 || n > MOST_HEADS) {
            return NONE;
        }
        Plan plan = party.plan();
        return (int) (party.crowdNow().orderCost(n, plan.plate, plan.lack) / Crowd.HUNDREDTH);
    }

    public int plates(int what) {
        if (!told || what < 0 || what > 1) {
            return NONE;
        }
        Plan plan = party.plan();
        Crowd crowd = party.crowdNow();
        int n = crowd.leastOrder(plan.plate, plan.lack);
        return what == 0 ? n : (int) (crowd.orderCost(n, plan.plate, plan.lack) / Crowd.HUNDREDTH);
    }

    public int ring(int what) {
        if (what < 0 || what > 1) {
            return NONE;
        }
        int guest = choices.findRing();
        if (guest == NONE || what == 0) {
            return guest;
        }
        return (int) (choices.ringCost() / (Crowd.HUNDREDTH * SURE));
    }

    public int full() {
        return told ? party.fullMillionths() : NONE;
    }

    // ---- who sat there

    public int seen(int sat, int joy, int what) {
        if (!told || sat < 0 || sat > MOST_HEADS || joy < 0 || joy > MOST_JOY) {
            return NONE;
        }
        switch (what) {
            case 0: return party.plan().seenCount(sat, joy);
            case 1: return party.plan().seenInAll(sat, joy);
            case 2: return party.plan().seenInSome(sat, joy);
            default: return NONE;
        }
    }

    // ---- acts

    public int send(int set) {
        if (set == 0 || !party.canAsk(set)) {
            refuse(REFUSED_CARDS);
            return NONE;
        }
        past.keep(standing);
        standing.sendTo(set);
        return Integer.bitCount(set);
    }

    public boolean answer(int guest, int how) {
        boolean right = isGuest(guest) && standing.isAsked(guest)
                && how >= COMING && how <= MAYBE && standing.how[guest] != how;
        if (!right) {
            refuse(REFUSED_CARDS);
            return false;
        }
        past.keep(standing);
        standing.how[guest] = how;
        return true;
    }

    public boolean weeks(int n) {
        if (!canPass(n)) {
            refuse(REFUSED_WEEKS);
            return false;
        }
        past.keep(standing);
        standing.week += n;
        return true;
    }

    public int chance(int n) {
        if (!canPass(n)) {
            refuse(REFUSED_WEEKS);
            return NONE;
        }
        past.keep(standing);
        int answered = 0;
        for (int k = 0; k < n; k++) {
            answered += passWeekBySeed();
        }
        return answered;
    }

    public boolean undo() {
        if (!past.giveBack(standing)) {
            refuse(REFUSED_UNDO);
            return false;
        }
        return true;
    }

    public boolean seed(int seed) {
        if (seed < 0) {
            refuse(REFUSED_STATE);
            return false;
        }
        drawn = seed;
        return true;
    }

    // ---- questions

    public long ask() {
        if (!told) {
            tape.cut(0);
            return NOTHING;
        }
        reader.begin();
        int kind = question.readQuestion(reader);
        closeReading();
        if (latestFault != 0) {
            return NOTHING;
        }
        return kind <= Formula.OFTEN ? answerOfTest(kind) : answerOfSum(kind);
    }

    // ---- images, refusals

    public int image() {
        picture.cut(0);
        standing.writeImage(picture, party.plan().guests);
        return picture.size();
    }

    public int octet(int k) {
        return picture.byteAt(k);
    }

    public boolean on() {
        boolean right = told && spare.readImage(tape, party.plan().guests);
        tape.cut(0);
        if (!right) {
            refuse(REFUSED_STATE);
            return false;
        }
        standing.copyFrom(spare);
        past.clear();
        return true;
    }

    public int status(int what) {
        return what >= 0 && what < refused.length ? refused[what] : NONE;
    }

    private void refuse(int sort) {
        if (sort >= 0 && sort < refused.length) {
            refused[sort]++;
        }
    }

    private boolean isGuest(int guest) {
        return guest >= 0 && guest < MOST_GUESTS && guest < party.plan().guests;
    }

    private void closeReading() {
        latestFault = reader.firstFault();
        latestPlace = reader.firstPlace();
        tape.cut(0);
    }

    private boolean canPass(int n) {
        return told && n >= 1 && n <= MOST_WEEKS_AT_ONCE && standing.week + n <= MOST_WEEK;
    }

    private int passWeekBySeed() {
        Plan plan = party.plan();
        int answered = 0;
        for (int g = 0; g < plan.guests && g < MOST_GUESTS; g++) {
            if (standing.how[g] == WAITING && draw(100) < plan.soon) {
                standing.how[g] = draw(10) < plan.comes[g] ? COMING : NOT_COMING;
                answered++;
            }
        }
        standing.week++;
        return answered;
    }

    private int draw(int m) {
        drawn = (int) ((1103515245L * drawn + 12345L) & 0x7fffffffL);
        return m > 0 ? (drawn >> 6) % m : 0;
    }

    private long answerOfTest(int kind) {
        int found = NONE;
        int held = 0;
        for (int g = 0; g < party.plan().guests; g++) {
            if (party.valueFor(question, g) != 0) {
                held++;
                if (kind == Formula.LAST || found == NONE) {
                    found = g;
                }
            }
        }
        return kind == Formula.OFTEN ? held : found;
    }

    private long answerOfSum(int kind) {
        long answer = 0;
        for (int g = 0; g < party.plan().guests; g++) {
            long value = party.valueFor(question, g);
            if (kind == Formula.TOTAL) {
                answer += value;
            } else if (g == 0) {
                answer = value;
            } else {
                answer = kind == Formula.MOST ? Math.max(answer, value) : Math.min(answer, value);
            }
        }
        return answer;
    }

    /** The words of both texts; an OWN WORD is no NAME. */
    enum Word {
        SEATS("seats", true), BENCH("bench", true), PLATE("plate", true), LACK("lack", true),
        GUEST("guest", true), COMES("comes", true), JOY("joy", true), WITH("with", true),
        SLIGHT("slight", true), PULLS("pulls", true), HEARS("hears", true), LATE("late", true),
        MAYBE("maybe", true), SOON("soon", true), MORE("more", true), WEEKS("weeks", true),
        SIZE("size", true), NUMBER("number", true), HOW("how", true), OR("or", true),
        AND("and", true), NOT("not", true), ALL("all", true), MIN("min", true), MAX("max", true),
        FIRST("first", false), LAST("last", false), OFTEN("often", false),
        TOTAL("total", false), MOST("most", false), LEAST("least", false);

        static final int MOST_LETTERS = 6;
        private static final int LETTER_BITS = 5;
        private static final int LETTER_MASK = 31;
        private static final Word[] WORDS = values();

        final int code;
        private final boolean own;

        Word(String text, boolean own) {
            int sum = 0;
            for (int k = 0; k < text.length(); k++) {
                sum = withLetter(sum, k, text.charAt(k));
            }
            this.code = sum;
            this.own = own;
        }

        /** The code with one letter more; 0, the code of no word, with a 7th and behind it. */
        static int withLetter(int code, int k, int letter) {
            boolean fits = k >= 0 && k < MOST_LETTERS;
            return fits ? code | (letter - 'a' + 1) << (LETTER_BITS * k) : 0;
        }

        static int letterOf(int code, int k) {
            return code >> (LETTER_BITS * k) & LETTER_MASK;
        }

        static boolean isOwn(int code) {
            for (int k = 0; k < WORDS.length; k++) {
                if (WORDS[k].own && WORDS[k].code == code) {
                    return true;
                }
            }
            return false;
        }
    }

    /** A row of bytes, of which the first ones count. */
    static final class Tape {
        private static final int CHECK_START = 67;
        private static final int CHECK_MODULUS = 251;

        private final int[] bytes;
        private int length;

        Tape(int most) {
            bytes = new int[Math.max(0, most)];
            length = 0;
        }

        int size() {
            return length;
        }

        int byteAt(int k) {
            return k >= 0 && k < length && k < bytes.length ? bytes[k] : NONE;
        }

        int pairAt(int k) {
            return byteAt(k) * 256 + byteAt(k + 1);
        }

        void put(int value) {
            if (length < bytes.length) {
                bytes[length] = value & 255;
                length++;
            }
        }

        void putPair(int value) {
            put(value >> 8);
            put(value);
        }

        void putFour(int value) {
            putPair(value >> 16);
            putPair(value);
        }

        void cut(int n) {
            if (n >= 0 && n <= length) {
                length = n;
            }
        }

        int checkOf(int n) {
            int check = CHECK_START;
            for (int k = 0; k < n && k < length; k++) {
                check = (3 * check + byteAt(k)) % CHECK_MODULUS;
            }
            return check;
        }
    }

    /**
     * Cuts a text into words, numbers and signs, and keeps its first fault.
     * Behind a fault nothing fits any more, so whoever reads need not look for it at each step.
     */
    static final class Reader {
        private static final int END = 0;
        private static final int WORD = 1;
        private static final int NUMBER = 2;
        private static final int SIGN = 3;
        private static final int JOINED = 4;
        private static final int BROKEN = 5;
        private static final int MOST_DIGITS = 4;

        private final Tape text;
        private int start;
        private int after;
        private int kind;
        private int value;
        private int fault;
        private int place;

        Reader(Tape text) {
            this.text = text;
            kind = END;
            place = NONE;
        }

        void begin() {
            after = 0;
            fault = 0;
            place = NONE;
            kind = SIGN;
            step();
        }

        int firstFault() {
            return fault;
        }

        int firstPlace() {
            return place;
        }

        boolean failed() {
            return fault != 0;
        }

        boolean goesOn() {
            return kind != END && kind != BROKEN;
        }

        int here() {
            return start;
        }

        void fail(int sort, int at) {
            if (fault == 0) {
                fault = sort;
                place = at;
            }
            kind = BROKEN;
        }

        void failHere(int sort) {
            fail(sort, start);
        }

        boolean standsSign(char sign) {
            return kind == SIGN && value == sign;
        }

        boolean standsWord(Word word) {
            return kind == WORD && value == word.code;
        }

        boolean standsNumber() {
            return kind == NUMBER;
        }

        boolean takesSign(char sign) {
            boolean stands = standsSign(sign);
            if (stands) {
                step();
            }
            return stands;
        }

        boolean takesWord(Word word) {
            boolean stands = standsWord(word);
            if (stands) {
                step();
            }
            return stands;
        }

        void wantsSign(char sign) {
            if (standsSign(sign)) {
                step();
            } else {
                failHere(FAULT_TEXT);
            }
        }

        void wantsWord(Word word) {
            if (standsWord(word)) {
                step();
            } else {
                failHere(FAULT_TEXT);
            }
        }

        void wantsEnd() {
            if (kind != END) {
                failHere(FAULT_TEXT);
            }
        }

        int wantsNumber(int most) {
            int number = value;
            if (kind != NUMBER) {
                failHere(FAULT_TEXT);
            } else if (after - start > MOST_DIGITS) {
                fail(FAULT_TEXT, start + MOST_DIGITS);
            } else if (number > most) {
                failHere(FAULT_NUMBER);
            } else {
                step();
                return number;
            }
            return 0;
        }

        int wantsName() {
            int name = value;
            if (kind != WORD) {
                failHere(FAULT_TEXT);
            } else if (after - start > Word.MOST_LETTERS) {
                fail(FAULT_TEXT, start + Word.MOST_LETTERS);
            } else if (Word.isOwn(name)) {
                failHere(FAULT_TEXT);
            } else {
                step();
                return name;
            }
            return 0;
        }

        void step() {
            boolean beside = kind == WORD || kind == NUMBER;
            int from = after;
            start = from;
            while (start < text.size() && isBlank(text.byteAt(start))) {
                start++;
            }
            int sort = sortOf(text.byteAt(start));
            boolean run = sort == WORD || sort == NUMBER;
            kind = beside && run && start == from ? JOINED : sort;
            value = run ? 0 : text.byteAt(start);
            after = run ? start : Math.min(start + 1, text.size());
            while (run && after < text.size() && sortOf(text.byteAt(after)) == sort) {
                int k = after - start;
                int sign = text.byteAt(after);
                value = sort == WORD ? Word.withLetter(value, k, sign) : withDigit(value, k, sign);
                after++;
            }
        }

        // A 5th digit is a FAULT wherever a number is asked, so no number has to hold it.
        private static int withDigit(int number, int k, int digit) {
            return k < MOST_DIGITS ? 10 * number + digit - '0' : number;
        }

        private static boolean isBlank(int sign) {
            return sign == 32 || sign == 10;
        }

        private static int sortOf(int sign) {
            if (sign == NONE) {
                return END;
            }
            if (sign >= 'a' && sign <= 'z') {
                return WORD;
            }
            return sign >= '0' && sign <= '9' ? NUMBER : SIGN;
        }
    }

    /** A SUM or a TEST: it reads itself, is held as steps over a stack, and tells its value. */
    static final class Formula {
        static final int FIRST = 0;
        static final int LAST = 1;
        static final int OFTEN = 2;
        static final int TOTAL = 3;
        static final int MOST = 4;
        static final int LEAST = 5;

        static final int FACT_NUMBER = 0;
        static final int FACT_HOW = 1;
        static final int FACT_COMES = 2;
        static final int FACT_JOY = 3;
        static final int FACT_SLIGHT = 4;
        static final int FACT_SIZE = 5;
        static final int FACT_WEEKS = 6;
        static final int FACTS = 7;

        // A step from 0 on is a number itself; FACT_STEP - f brings fact f.
        private static final int FACT_STEP = -1;
        private static final int PLUS = -11;
        private static final int MINUS = -12;
        private static final int TIMES = -13;
        private static final int BY = -14;
        private static final int LOWER = -15;
        private static final int UPPER = -16;
        private static final int BELOW = -17;
        private static final int OVER = -18;
        private static final int SAME = -19;
        private static final int BOTH = -20;
        private static final int EITHER = -21;
        private static final int NEITHER = -22;
        private static final int PULLED = -23;

        private static final int MOST_OPEN = 6;
        private static final int MOST_NUMBER = 9999;
        private static final int LIMIT = 1000000;
        // Six open ones leave some thirty values waiting at most.
        private static final int MOST_STACK = 64;

        private final int[] steps;
        private final int[] stack;
        private int length;
        private boolean asking;

        Formula() {
            steps = new int[MOST_BYTES];
            stack = new int[MOST_STACK];
            length = 0;
            asking = false;
        }

        void clear() {
            length = 0;
        }

        boolean isEmpty() {
            return length == 0;
        }

        /** The STATEMENT late; a second one is one too many. */
        void readLate(Reader reader) {
            if (!isEmpty()) {
                reader.failHere(FAULT_MANY);
                return;
            }
            asking = false;
            reader.takesWord(Word.LATE);
            readSum(reader, 0);
        }

        int readQuestion(Reader reader) {
            length = 0;
            asking = true;
            int kind = readKind(reader);
            if (kind <= OFTEN) {
                readTest(reader, 0);
            } else {
                readSum(reader, 0);
            }
            reader.wantsEnd();
            return kind;
        }

        int valueFor(int[] facts, int[] farSets) {
            int top = 0;
            for (int k = 0; k < length && k < steps.length; k++) {
                int step = steps[k];
                if (step > PLUS) {
                    if (top < stack.length) {
                        stack[top] = step >= 0 ? step : factAt(facts, FACT_STEP - step);
                        top++;
                    }
                } else if (step <= NEITHER) {
                    if (top >= 1) {
                        stack[top - 1] = turned(step, stack[top - 1], facts, farSets);
                    }
                } else if (top >= 2) {
                    top--;
                    stack[top - 1] = joined(step, stack[top - 1], stack[top]);
                }
            }
            return stack[0];
        }

        private static int factAt(int[] facts, int k) {
            return k >= 0 && k < facts.length ? facts[k] : 0;
        }

        private static int turned(int step, int value, int[] facts, int[] farSets) {
            if (step == NEITHER) {
                return value == 0 ? 1 : 0;
            }
            boolean known = value >= 0 && value < farSets.length;
            return known ? farSets[value] >> factAt(facts, FACT_NUMBER) & 1 : 0;
        }

        private static int joined(int step, int left, int right) {
            switch (step) {
                case PLUS: return limited((long) left + right);
                case MINUS: return limited((long) left - right);
                case TIMES: return limited((long) left * right);
                case BY: return right == 0 ? 0 : Math.floorDiv(left, right);
                case LOWER: return Math.min(left, right);
                case UPPER: return Math.max(left, right);
                case BELOW: return left < right ? 1 : 0;
                case OVER: return left > right ? 1 : 0;
                case SAME: return left == right ? 1 : 0;
                case BOTH: return left & right;
                case EITHER: return left | right;
                default: return 0;
            }
        }

        private static int limited(long value) {
            return (int) Math.max(-LIMIT, Math.min(LIMIT, value));
        }

        private void add(int step) {
            if (length < steps.length) {
                steps[length] = step;
                length++;
            }
        }

        private static int readKind(Reader reader) {
            if (reader.takesWord(Word.FIRST)) {
                return FIRST;
            }
            if (reader.takesWord(Word.LAST)) {
                return LAST;
            }
            if (reader.takesWord(Word.OFTEN)) {
                return OFTEN;
            }
            if (reader.takesWord(Word.TOTAL)) {
                return TOTAL;
            }
            if (reader.takesWord(Word.MOST)) {
                return MOST;
            }
            reader.wantsWord(Word.LEAST);
            return LEAST;
        }

        private void readTest(Reader reader, int open) {
            readBoth(reader, open);
            for (int k = 0; k < MOST_BYTES && reader.takesWord(Word.OR); k++) {
                readBoth(reader, open);
                add(EITHER);
            }
        }

        private void readBoth(Reader reader, int open) {
            readFact(reader, open);
            for (int k = 0; k < MOST_BYTES && reader.takesWord(Word.AND); k++) {
                readFact(reader, open);
                add(BOTH);
            }
        }

        private void readFact(Reader reader, int open) {
            if (reader.standsWord(Word.NOT)) {
                if (opens(reader, open)) {
                    reader.takesWord(Word.NOT);
                    readFact(reader, open + 1);
                    add(NEITHER);
                }
            } else if (reader.standsSign('[')) {
                if (opens(reader, open)) {
                    reader.takesSign('[');
                    readTest(reader, open + 1);
                    reader.wantsSign(']');
                }
            } else if (reader.takesWord(Word.ALL)) {
                add(1);
            } else {
                readSum(reader, open);
                int sign = readSign(reader);
                readSum(reader, open);
                add(sign);
            }
        }

        private static int readSign(Reader reader) {
            if (reader.takesSign('<')) {
                return BELOW;
            }
            if (reader.takesSign('>')) {
                return OVER;
            }
            reader.wantsSign('=');
            return SAME;
        }

        private static boolean opens(Reader reader, int open) {
            if (open >= MOST_OPEN) {
                reader.failHere(FAULT_DEPTH);
                return false;
            }
            return true;
        }

        private void readSum(Reader reader, int open) {
            if (reader.failed()) {
                return;
            }
            readProduct(reader, open);
            for (int k = 0; k < MOST_BYTES; k++) {
                if (reader.takesSign('+')) {
                    readProduct(reader, open);
                    add(PLUS);
                } else if (reader.takesSign('-')) {
                    readProduct(reader, open);
                    add(MINUS);
                } else {
                    return;
                }
            }
        }

        private void readProduct(Reader reader, int open) {
            readPart(reader, open);
            for (int k = 0; k < MOST_BYTES; k++) {
                if (reader.takesSign('*')) {
                    readPart(reader, open);
                    add(TIMES);
                } else if (reader.takesSign('/')) {
                    readPart(reader, open);
                    add(BY);
                } else {
                    return;
                }
            }
        }

        private void readPart(Reader reader, int open) {
            if (reader.standsNumber()) {
                add(reader.wantsNumber(MOST_NUMBER));
            } else if (reader.standsSign('(')) {
                if (opens(reader, open)) {
                    reader.takesSign('(');
                    readSum(reader, open + 1);
                    reader.wantsSign(')');
                }
            } else if (reader.takesWord(Word.MIN)) {
                readPair(reader, open, LOWER);
            } else if (reader.takesWord(Word.MAX)) {
                readPair(reader, open, UPPER);
            } else if (asking && reader.standsWord(Word.PULLS)) {
                if (opens(reader, open)) {
                    reader.takesWord(Word.PULLS);
                    readPart(reader, open + 1);
                    add(PULLED);
                }
            } else {
                int fact = factThatStands(reader);
                if (fact == NONE) {
                    reader.failHere(FAULT_TEXT);
                } else {
                    reader.step();
                    add(FACT_STEP - fact);
                }
            }
        }

        private void readPair(Reader reader, int open, int step) {
            if (!reader.standsSign('(')) {
                reader.failHere(FAULT_TEXT);
            } else if (opens(reader, open)) {
                reader.takesSign('(');
                readSum(reader, open + 1);
                reader.wantsSign(',');
                readSum(reader, open + 1);
                reader.wantsSign(')');
                add(step);
            }
        }

        /** The fact of a GUEST whose word stands here, NONE if none does. */
        private int factThatStands(Reader reader) {
            if (reader.standsWord(Word.WEEKS)) {
                return FACT_WEEKS;
            }
            if (reader.standsWord(Word.SLIGHT)) {
                return FACT_SLIGHT;
            }
            if (reader.standsWord(Word.JOY)) {
                return FACT_JOY;
            }
            if (reader.standsWord(Word.SIZE)) {
                return FACT_SIZE;
            }
            if (asking && reader.standsWord(Word.NUMBER)) {
                return FACT_NUMBER;
            }
            if (asking && reader.standsWord(Word.HOW)) {
                return FACT_HOW;
            }
            if (asking && reader.standsWord(Word.COMES)) {
                return FACT_COMES;
            }
            return NONE;
        }
    }

    /** What a WEDDING's text tells. */
    static final class Plan {
        int guests;
        int pullsTold;
        int hearsTold;
        int seats;
        int bench;
        int plate;
        int lack;
        int maybe;
        int soon;
        int more;
        final int[] names = new int[MOST_GUESTS];
        final int[] comes = new int[MOST_GUESTS];
        final int[] joys = new int[MOST_GUESTS];
        final int[] sizes = new int[MOST_GUESTS];
        final int[] slights = new int[MOST_GUESTS];
        final int[] pulled = new int[MOST_GUESTS];
        final int[] heard = new int[MOST_GUESTS];
        final int[] farSets = new int[MOST_GUESTS];
        final Formula late = new Formula();

        void clear() {
            guests = 0;
            pullsTold = 0;
            hearsTold = 0;
            maybe = 5;
            soon = 50;
            more = 2;
            late.clear();
            for (int g = 0; g < MOST_GUESTS; g++) {
                pulled[g] = 0;
                heard[g] = 0;
                farSets[g] = 0;
            }
        }

        int guestNamed(int name) {
            for (int g = 0; g < guests && g < MOST_GUESTS; g++) {
                if (names[g] == name) {
                    return g;
                }
            }
            return NONE;
        }

        int allSets() {
            return 1 << guests;
        }

        void findFarSets() {
            for (int g = 0; g < guests && g < MOST_GUESTS; g++) {
                int set = 1 << g;
                // Each round that is not the last brings a guest, so eight are enough.
                for (int round = 0; round < MOST_GUESTS; round++) {
                    set |= pulledBy(set);
                }
                farSets[g] = set;
            }
        }

        int pulledBy(int set) {
            int all = 0;
            for (int g = 0; g < guests && g < MOST_GUESTS; g++) {
                if ((set >> g & 1) == 1) {
                    all |= pulled[g];
                }
            }
            return all;
        }

        int sumOver(int set, int[] row) {
            int sum = 0;
            for (int g = 0; g < guests && g < row.length; g++) {
                if ((set >> g & 1) == 1) {
                    sum += row[g];
                }
            }
            return sum;
        }

        int slightIfAsked(int guest, int asked) {
            boolean known = guest >= 0 && guest < MOST_GUESTS;
            return known && (heard[guest] & asked) != 0 ? slights[guest] : 0;
        }

        int seenCount(int sat, int joy) {
            int count = 0;
            for (int set = 0; set < allSets(); set++) {
                if (isSeen(set, sat, joy)) {
                    count++;
                }
            }
            return count;
        }

        int seenInAll(int sat, int joy) {
            int common = allSets() - 1;
            boolean some = false;
            for (int set = 0; set < allSets(); set++) {
                if (isSeen(set, sat, joy)) {
                    common &= set;
                    some = true;
                }
            }
            return some ? common : 0;
        }

        int seenInSome(int sat, int joy) {
            int any = 0;
            for (int set = 0; set < allSets(); set++) {
                if (isSeen(set, sat, joy)) {
                    any |= set;
                }
            }
            return any;
        }

        private boolean isSeen(int set, int sat, int joy) {
            return sumOver(set, sizes) == sat && sumOver(set, joys) == joy;
        }
    }

    /** Reads a WEDDING off the tape into a Plan. */
    static final class PlanReader {
        private static final int MOST_STATEMENTS = 60;
        private static final int MOST_PULLS = 16;
        private static final int MOST_HEARS = 24;

        private final Reader reader;

        PlanReader(Reader reader) {
            this.reader = reader;
        }

        int readInto(Plan plan) {
            plan.clear();
            reader.begin();
            readSeats(plan);
            reader.wantsSign(';');
            int statements = 1;
            while (statements < MOST_STATEMENTS && reader.goesOn()) {
                readStatement(plan);
                reader.wantsSign(';');
                statements++;
            }
            if (reader.goesOn()) {
                reader.failHere(FAULT_MANY);
            }
            plan.findFarSets();
            return statements;
        }

        private void readSeats(Plan plan) {
            reader.wantsWord(Word.SEATS);
            plan.seats = reader.wantsNumber(40);
            reader.wantsWord(Word.BENCH);
            plan.bench = reader.wantsNumber(99);
            reader.wantsWord(Word.PLATE);
            plan.plate = reader.wantsNumber(99);
            reader.wantsWord(Word.LACK);
            plan.lack = reader.wantsNumber(99);
        }

        private void readStatement(Plan plan) {
            if (reader.standsWord(Word.GUEST)) {
                readGuest(plan);
            } else if (reader.standsWord(Word.PULLS)) {
                readTwo(Word.PULLS, plan, plan.pulled, plan.pullsTold < MOST_PULLS);
                plan.pullsTold++;
            } else if (reader.standsWord(Word.HEARS)) {
                readTwo(Word.HEARS, plan, plan.heard, plan.hearsTold < MOST_HEARS);
                plan.hearsTold++;
            } else if (reader.standsWord(Word.LATE)) {
                plan.late.readLate(reader);
            } else if (reader.takesWord(Word.MAYBE)) {
                plan.maybe = reader.wantsNumber(SURE);
            } else if (reader.takesWord(Word.SOON)) {
                plan.soon = reader.wantsNumber(100);
            } else if (reader.takesWord(Word.MORE)) {
                plan.more = reader.wantsNumber(9);
            } else {
                reader.failHere(FAULT_TEXT);
            }
        }

        private void readGuest(Plan plan) {
            if (plan.guests < 0 || plan.guests >= MOST_GUESTS) {
                reader.failHere(FAULT_MANY);
                return;
            }
            int g = plan.guests;
            reader.takesWord(Word.GUEST);
            int at = reader.here();
            plan.names[g] = reader.wantsName();
            if (plan.guestNamed(plan.names[g]) != NONE) {
                reader.fail(FAULT_NAME, at);
            }
            reader.wantsWord(Word.COMES);
            plan.comes[g] = reader.wantsNumber(SURE);
            reader.wantsWord(Word.JOY);
            plan.joys[g] = reader.wantsNumber(99);
            reader.wantsWord(Word.WITH);
            plan.sizes[g] = 1 + reader.wantsNumber(3);
            reader.wantsWord(Word.SLIGHT);
            plan.slights[g] = reader.wantsNumber(99);
            plan.guests = g + 1;
        }

        private void readTwo(Word word, Plan plan, int[] sets, boolean room) {
            if (!room) {
                reader.failHere(FAULT_MANY);
                return;
            }
            reader.takesWord(word);
            int first = readKnownName(plan);
            int at = reader.here();
            int second = readKnownName(plan);
            if (first < 0 || first >= sets.length || second < 0) {
                return;
            }
            if (first == second || (sets[first] >> second & 1) == 1) {
                reader.fail(FAULT_NAME, at);
            }
            sets[first] |= 1 << second;
        }

        private int readKnownName(Plan plan) {
            int at = reader.here();
            int guest = plan.guestNamed(reader.wantsName());
            if (guest == NONE) {
                reader.fail(FAULT_NAME, at);
            }
            return guest;
        }
    }

    /** How things stand: the WEEK, whose cards went when, who answered what. */
    static final class Standing {
        private static final int NO_CARD = 65535;
        private static final int HEAD = 4;

        int week;
        int first;
        final int[] how = new int[MOST_GUESTS];
        // 0 for who is not asked, so that images need no case of their own.
        final int[] behind = new int[MOST_GUESTS];

        Standing() {
            week = 0;
            first = NONE;
        }

        static int imageSize(int guests) {
            return HEAD + 3 * guests + 1;
        }

        void clear() {
            week = 0;
            first = NONE;
            for (int g = 0; g < MOST_GUESTS; g++) {
                how[g] = NOT_ASKED;
                behind[g] = 0;
            }
        }

        void copyFrom(Standing other) {
            week = other.week;
            first = other.first;
            for (int g = 0; g < MOST_GUESTS; g++) {
                how[g] = other.how[g];
                behind[g] = other.behind[g];
            }
        }

        boolean isAsked(int guest) {
            return guest >= 0 && guest < MOST_GUESTS && how[guest] != NOT_ASKED;
        }

        int askedSet() {
            int set = 0;
            for (int g = 0; g < MOST_GUESTS; g++) {
                if (how[g] != NOT_ASKED) {
                    set |= 1 << g;
                }
            }
            return set;
        }

        int countOf(int sort) {
            int count = 0;
            for (int g = 0; g < MOST_GUESTS; g++) {
                if (how[g] == sort) {
                    count++;
                }
            }
            return count;
        }

        /** How many WEEKS behind the first card one goes now. */
        int behindNow() {
            return first == NONE ? 0 : week - first;
        }

        void sendTo(int set) {
            int late = behindNow();
            for (int g = 0; g < MOST_GUESTS; g++) {
                if ((set >> g & 1) == 1) {
                    how[g] = WAITING;
                    behind[g] = late;
                }
            }
            if (first == NONE) {
                first = week;
            }
        }

        void writeImage(Tape out, int guests) {
            out.putPair(week);
            out.putPair(first == NONE ? NO_CARD : first);
            for (int g = 0; g < guests && g < MOST_GUESTS; g++) {
                out.put(how[g]);
                out.putPair(behind[g]);
            }
            out.put(out.checkOf(out.size()));
        }

        boolean readImage(Tape in, int guests) {
            int size = imageSize(guests);
            if (in.size() != size || in.byteAt(size - 1) != in.checkOf(size - 1)) {
                return false;
            }
            clear();
            week = in.pairAt(0);
            first = in.pairAt(2) == NO_CARD ? NONE : in.pairAt(2);
            for (int g = 0; g < guests && g < MOST_GUESTS; g++) {
                how[g] = in.byteAt(HEAD + 3 * g);
                behind[g] = in.pairAt(HEAD + 3 * g + 1);
            }
            return isSound();
        }

        private boolean isSound() {
            if (week > MOST_WEEK || first > week || (first == NONE) != (askedSet() == 0)) {
                return false;
            }
            boolean firstIsThere = first == NONE;
            for (int g = 0; g < MOST_GUESTS; g++) {
                int most = how[g] == NOT_ASKED ? 0 : behindNow();
                if (how[g] > MAYBE || behind[g] > most) {
                    return false;
                }
                if (how[g] != NOT_ASKED && behind[g] == 0) {
                    firstIsThere = true;
                }
            }
            return firstIsThere;
        }
    }

    /** How things stood ahead of each of the latest ACTS. */
    static final class Past {
        private static final int MOST_ACTS = 20;

        private final Standing[] rows;
        private int count;

        Past() {
            rows = new Standing[MOST_ACTS];
            for (int k = 0; k < MOST_ACTS; k++) {
                rows[k] = new Standing();
            }
            count = 0;
        }

        int size() {
            return count;
        }

        void clear() {
            count = 0;
        }

        void keep(Standing standing) {
            if (count >= MOST_ACTS) {
                dropOldest();
            }
            rows[count].copyFrom(standing);
            count++;
        }

        boolean giveBack(Standing standing) {
            if (count <= 0 || count > MOST_ACTS) {
                return false;
            }
            count--;
            standing.copyFrom(rows[count]);
            return true;
        }

        private void dropOldest() {
            Standing oldest = rows[0];
            for (int k = 1; k < MOST_ACTS; k++) {
                rows[k - 1] = rows[k];
            }
            rows[MOST_ACTS - 1] = oldest;
            count = MOST_ACTS - 1;
        }
    }

    /** How likely each number of heads is, as weights that are EVERY together; and what plates cost. */
    static final class Crowd {
        // Ten to the 8: eight GUESTS in tenths, so that each weight is whole.
        static final long EVERY = 100000000L;
        static final long HUNDREDTH = EVERY / 100;
        private static final long MILLIONTH = EVERY / MILLION;

        private final long[] weights = new long[MOST_HEADS + 1];
        private int most;

        void clear() {
            for (int k = 0; k <= MOST_HEADS; k++) {
                weights[k] = 0;
            }
            weights[0] = EVERY;
            most = 0;
        }

        // Each GUEST takes one factor ten from the weights, so the division leaves no rest.
        void add(int tenths, int heads) {
            if (tenths <= 0 || heads < 0) {
                return;
            }
            most = Math.min(most + heads, MOST_HEADS);
            for (int k = most; k >= 0; k--) {
                long come = k >= heads ? weights[k - heads] / SURE * tenths : 0;
                weights[k] = weights[k] / SURE * (SURE - tenths) + come;
            }
        }

        long justMillionths(int n) {
            return n >= 0 && n <= MOST_HEADS ? weights[n] / MILLIONTH : 0;
        }

        long moreMillionths(int n) {
            long sum = 0;
            for (int k = 0; k <= MOST_HEADS; k++) {
                if (k > n) {
                    sum += weights[k];
                }
            }
            return sum / MILLIONTH;
        }

        /** The MEAN of heads above n, times EVERY. */
        long beyond(int n) {
            long sum = 0;
            for (int k = 0; k <= most && k <= MOST_HEADS; k++) {
                if (k > n) {
                    sum += weights[k] * (k - n);
                }
            }
            return sum;
        }

        /** Times EVERY. */
        long orderCost(int n, int plate, int lack) {
            return (long) n * plate * EVERY + lack * beyond(n);
        }

        int leastOrder(int plate, int lack) {
            int least = 0;
            long leastCost = orderCost(0, plate, lack);
            for (int n = 1; n <= MOST_HEADS; n++) {
                long cost = orderCost(n, plate, lack);
                if (cost < leastCost) {
                    least = n;
                    leastCost = cost;
                }
            }
            return least;
        }

        /** How likely just n of so many do what each does by so many of 100; in millionths. */
        static long someOf(int all, int n, int hundredths) {
            if (n < 0 || n > all || all > MOST_GUESTS) {
                return 0;
            }
            long ways = 1;
            long weight = 1;
            for (int k = 0; k < all; k++) {
                weight *= k < n ? hundredths : 100 - hundredths;
                if (k < n) {
                    ways = ways * (all - k) / (k + 1);
                }
            }
            weight *= ways;
            // Over 100 for each of all, times a million (100 three times): so the powers do not overflow.
            for (int k = all; k < 3; k++) {
                weight *= 100;
            }
            for (int k = 3; k < all; k++) {
                weight /= 100;
            }
            return weight;
        }
    }

    /** The GUESTS as told and as they stand: how they COME, OFFENCE, WORTH. */
    static final class Party {
        private static final int MOST_OFFENCE = 999;

        private final Standing standing;
        private final Crowd crowd;
        private final int[] facts;
        // OFFENCE of each, if he is asked (now, or was).
        private final int[] cardOffence;
        private Plan plan;

        Party(Standing standing) {
            this.standing = standing;
            crowd = new Crowd();
            facts = new int[Formula.FACTS];
            cardOffence = new int[MOST_GUESTS];
            plan = new Plan();
        }

        Plan plan() {
            return plan;
        }

        Standing standing() {
            return standing;
        }

        /** Takes a Plan, and gives back the one that it had. */
        Plan adopt(Plan next) {
            Plan old = plan;
            plan = next;
            return old;
        }

        int comesNow(int guest) {
            if (guest < 0 || guest >= MOST_GUESTS) {
                return 0;
            }
            switch (standing.how[guest]) {
                case WAITING: return plan.comes[guest];
                case COMING: return SURE;
                case MAYBE: return plan.maybe;
                default: return 0;
            }
        }

        int mostHeads() {
            int sum = 0;
            for (int g = 0; g < plan.guests && g < MOST_GUESTS; g++) {
                if (standing.isAsked(g) && standing.how[g] != NOT_COMING) {
                    sum += plan.sizes[g];
                }
            }
            return sum;
        }

        boolean isWhole(int set, int asked) {
            return (plan.pulledBy(set) & ~(set | asked)) == 0;
        }

        /** Whether cards may go to the set; to none, too. */
        boolean canAsk(int set) {
            int asked = standing.askedSet();
            return set >= 0 && set < plan.allSets() && (set & asked) == 0 && isWhole(set, asked);
        }

        Crowd crowdNow() {
            return crowdWhen(NONE, 0);
        }

        /** The crowd when one GUEST (or NONE) is known to come by so many of ten. */
        Crowd crowdWhen(int known, int tenths) {
            crowd.clear();
            for (int g = 0; g < plan.guests && g < MOST_GUESTS; g++) {
                crowd.add(g == known ? tenths : comesNow(g), plan.sizes[g]);
            }
            return crowd;
        }

        int meanTenths(int set) {
            int sum = 0;
            for (int g = 0; g < plan.guests && g < MOST_GUESTS; g++) {
                sum += comesWith(set, g) * plan.sizes[g];
            }
            return sum;
        }

        /** Ahead of all OFFENCE and WORTH: what each one's card costs, once, as no set changes it. */
        void weighCards() {
            for (int g = 0; g < plan.guests && g < MOST_GUESTS; g++) {
                int behind = standing.isAsked(g) ? standing.behind[g] : standing.behindNow();
                cardOffence[g] = behind > 0 && !plan.late.isEmpty() ? lateOffence(g, behind) : 0;
            }
        }

        int offenceNow(int guest) {
            weighCards();
            return offenceOf(guest, standing.askedSet());
        }

        /** OFFENCE of all together, did cards go now to the set. */
        int offenceWith(int set) {
            int asked = standing.askedSet() | set;
            int sum = 0;
            for (int g = 0; g < plan.guests; g++) {
                sum += offenceOf(g, asked);
            }
            return sum;
        }

        /** WORTH in hundredths, did cards go now to the set. */
        long worthWith(int set) {
            long joyTenths = 0;
            crowd.clear();
            for (int g = 0; g < plan.guests && g < MOST_GUESTS; g++) {
                int tenths = comesWith(set, g);
                joyTenths += tenths * plan.joys[g];
                crowd.add(tenths, plan.sizes[g]);
            }
            long exact = joyTenths * (Crowd.EVERY / SURE)
                    - offenceWith(set) * Crowd.EVERY
                    - plan.bench * crowd.beyond(plan.seats);
            return Math.floorDiv(exact, Crowd.HUNDREDTH);
        }

        int fullMillionths() {
            long asTold = 1;
            long asFull = 1;
            for (int g = 0; g < plan.guests && g < MOST_GUESTS; g++) {
                int tenths = plan.comes[g];
                int fuller = Math.min(SURE, tenths + plan.more);
                if (standing.how[g] == COMING) {
                    asTold *= tenths;
                    asFull *= fuller;
                } else if (standing.how[g] == NOT_COMING) {
                    asTold *= SURE - tenths;
                    asFull *= SURE - fuller;
                }
            }
            long both = asTold + asFull;
            return both <= 0 ? MILLION / 2 : (int) (asFull * MILLION / both);
        }

        int valueFor(Formula formula, int guest) {
            if (guest < 0 || guest >= MOST_GUESTS) {
                return 0;
            }
            fillFacts(guest, standing.behind[guest]);
            return formula.valueFor(facts, plan.farSets);
        }

        private int offenceOf(int guest, int asked) {
            if (guest < 0 || guest >= MOST_GUESTS) {
                return 0;
            }
            boolean hasCard = (asked >> guest & 1) == 1;
            return hasCard ? cardOffence[guest] : plan.slightIfAsked(guest, asked);
        }

        private int comesWith(int set, int guest) {
            if (guest < 0 || guest >= MOST_GUESTS) {
                return 0;
            }
            return (set >> guest & 1) == 1 ? plan.comes[guest] : comesNow(guest);
        }

        private int lateOffence(int guest, int behind) {
            fillFacts(guest, behind);
            int value = plan.late.valueFor(facts, plan.farSets);
            return Math.max(0, Math.min(MOST_OFFENCE, value));
        }

        private void fillFacts(int guest, int behind) {
            if (guest < 0 || guest >= MOST_GUESTS) {
                return;
            }
            facts[Formula.FACT_NUMBER] = guest;
            facts[Formula.FACT_HOW] = standing.how[guest];
            facts[Formula.FACT_COMES] = standing.isAsked(guest) ? comesNow(guest) : plan.comes[guest];
            facts[Formula.FACT_JOY] = plan.joys[guest];
            facts[Formula.FACT_SLIGHT] = plan.slights[guest];
            facts[Formula.FACT_SIZE] = plan.sizes[guest];
            facts[Formula.FACT_WEEKS] = behind;
        }
    }

    /** Tries all sets of GUESTS, or all GUESTS, for the one that serves most. */
    static final class Choices {
        private final Party party;
        private long bestWorth;
        private int safeSet;
        private int safeOffence;
        private int safeJoy;
        private long ringCost;

        Choices(Party party) {
            this.party = party;
        }

        long bestWorth() {
            return bestWorth;
        }

        int safeSet() {
            return safeSet;
        }

        int safeOffence() {
            return safeOffence;
        }

        int safeJoy() {
            return safeJoy;
        }

        /** Times EVERY, times ten. */
        long ringCost() {
            return ringCost;
        }

        /** BEST of the sets that have none of the banned. */
        int findBest(int banned) {
            party.weighCards();
            int best = 0;
            bestWorth = party.worthWith(0);
            for (int set = 1; set < party.plan().allSets(); set++) {
                if ((set & banned) == 0 && party.canAsk(set)) {
                    long worth = party.worthWith(set);
                    boolean fewer = Integer.bitCount(set) < Integer.bitCount(best);
                    if (worth > bestWorth || worth == bestWorth && fewer) {
                        best = set;
                        bestWorth = worth;
                    }
                }
            }
            return best;
        }

        int findEnough(int n) {
            int found = NONE;
            for (int set = 0; set < party.plan().allSets(); set++) {
                boolean fewer = found == NONE || Integer.bitCount(set) < Integer.bitCount(found);
                if (fewer && party.canAsk(set) && party.meanTenths(set) >= n * SURE) {
                    found = set;
                }
            }
            return found;
        }

        void findSafe() {
            Plan plan = party.plan();
            safeSet = 0;
            safeOffence = 0;
            safeJoy = 0;
            for (int set = 1; set < plan.allSets(); set++) {
                if (party.isWhole(set, 0) && plan.sumOver(set, plan.sizes) <= plan.seats) {
                    int offence = slightsBy(plan, set);
                    int joy = plan.sumOver(set, plan.joys);
                    if (offence < safeOffence || offence == safeOffence && joy > safeJoy) {
                        safeSet = set;
                        safeOffence = offence;
                        safeJoy = joy;
                    }
                }
            }
        }

        /** Whom to RING, NONE without one who waits, or is maybe. */
        int findRing() {
            Standing standing = party.standing();
            int found = NONE;
            for (int g = 0; g < party.plan().guests && g < MOST_GUESTS; g++) {
                if (standing.how[g] == WAITING || standing.how[g] == MAYBE) {
                    int tenths = party.comesNow(g);
                    long cost = tenths * leastCost(g, SURE) + (SURE - tenths) * leastCost(g, 0);
                    if (found == NONE || cost < ringCost) {
                        found = g;
                        ringCost = cost;
                    }
                }
            }
            return found;
        }

        private long leastCost(int known, int tenths) {
            Plan plan = party.plan();
            Crowd crowd = party.crowdWhen(known, tenths);
            return crowd.orderCost(crowd.leastOrder(plan.plate, plan.lack), plan.plate, plan.lack);
        }

        private static int slightsBy(Plan plan, int asked) {
            int sum = 0;
            for (int g = 0; g < plan.guests; g++) {
                if ((asked >> g & 1) == 0) {
                    sum += plan.slightIfAsked(g, asked);
                }
            }
            return sum;
        }
    }
}

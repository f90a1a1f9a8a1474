import java.util.NoSuchElementException;

/** The machine in the cellar, which lets two change minds once and never again with those same two. */
public final class CellarTurns {
    public static final int NONE = -1;

    private static final int NO_ANSWER = -2;

    private static final int MOST_SIGNS = 1000;
    private static final int MOST_LETTERS = 8;
    private static final int MOST_DIGITS = 4;
    private static final int MOST_BODIES = 8;
    private static final int MOST_PEOPLE = 6;
    private static final int MOST_NEW = 2;
    private static final int MOST_PRICE = 999;
    private static final int MOST_OFTEN = 9;
    private static final int MOST_SAT_BY_SHY = 2;
    private static final int MOST_LINES = 30;
    private static final int MOST_NESTED = 5;
    private static final int MOST_UNDONE = 16;
    private static final int MOST_SEEN = 8;
    private static final int MARKS = 4;
    private static final int LONGEST_ROW = 5;
    private static final int DRAWN_TURNS = 6;
    private static final int MILLION = 1000000;

    private static final int PLAIN = 0;
    private static final int ILL = 1;
    private static final int SHY = 2;
    private static final int CAT = 3;

    private static final int OUT_OF_PLACE = 1;
    private static final int UNTOLD = 2;
    private static final int TOLD_ALREADY = 3;
    private static final int BAD_NUMBER = 4;
    private static final int ONE_TOO_MANY = 5;

    private static final int NAMES_OF_FETCH = 1;
    private static final int NAMES_OF_TURN = 2;
    private static final int NAMES_OF_ROUND = 3;

    private final Tape tape;
    private final Reader reader;
    private final RingList ringList;
    private final Search search;
    private final Tally tally;
    private final Muddle now;
    private final Muddle trial;
    private final Muddle[] past;
    private final Muddle[] marked;
    private House house;
    private House spareHouse;
    private Plan plan;
    private Plan sparePlan;
    private int pastEnd;
    private int pastCount;
    private int laid;

    public CellarTurns() {
        tape = new Tape();
        reader = new Reader(tape);
        house = new House();
        spareHouse = new House();
        plan = new Plan();
        sparePlan = new Plan();
        ringList = new RingList();
        search = new Search(house);
        tally = new Tally(house);
        now = new Muddle(house);
        trial = new Muddle(house);
        past = new Muddle[MOST_UNDONE];
        for (int i = 0; i < MOST_UNDONE; i++) {
            past[i] = new Muddle(house);
        }
        marked = new Muddle[MARKS];
        for (int i = 0; i < MARKS; i++) {
            marked[i] = new Muddle(house);
        }
    }

    public int feed(long a, long b, long c) {
        tape.addBytes(a);
        tape.addBytes(b);
        tape.addBytes(c);
        return tape.length;
    }

    public int cellar() {
        int fault = reader.readHouse(spareHouse);
        if (fault != 0) {
            return fault;
        }
        House told = spareHouse;
        spareHouse = house;
        house = told;
        now.begin(house);
        plan.clear();
        pastCount = 0;
        laid = 0;
        return 0;
    }

    public int evening() {
        int fault = reader.readPlan(house, sparePlan);
        if (fault != 0) {
            return fault;
        }
        Plan told = sparePlan;
        sparePlan = plan;
        plan = told;
        return 0;
    }

    public int body(int body, int what) {
        if (!house.has(body)) {
            return NONE;
        }
        switch (what) {
            case 0: return house.kinds[body];
            case 1: return house.newBits >> body & 1;
            case 2: return house.prices[body];
            case 3: return now.there >> body & 1;
            case 4: return now.minds[body];
            case 5: return now.sat[body];
            case 6: return now.astray >> body & 1;
            default: return NONE;
        }
    }

    public int mind(int mind) {
        for (int body = 0; body < house.bodies; body++) {
            if (now.minds[body] == mind) {
                return body;
            }
        }
        return NONE;
    }

    public boolean may(int one, int other) {
        return now.allows(one, other);
    }

    public int turn(int one, int other) {
        if (!now.allows(one, other)) {
            return NONE;
        }
        remember();
        now.playTurn(one, other);
        return now.wrongOnes();
    }

    public int round(int one, int other, int third) {
        if (!now.allowsRound(one, other, third)) {
            return NONE;
        }
        remember();
        now.playRound(one, other, third);
        return now.wrongOnes();
    }

    public boolean fetch(int body) {
        if (!now.allowsFetch(body)) {
            return false;
        }
        remember();
        now.playFetch(body);
        return true;
    }

    public boolean undo() {
        if (pastCount == 0) {
            return false;
        }
        pastCount--;
        pastEnd = Math.floorMod(pastEnd - 1, MOST_UNDONE);
        now.copy(past[pastEnd]);
        return true;
    }

    public int judged(int what) {
        if (what < 0 || what > 2) {
            return NO_ANSWER;
        }
        trial.begin(house);
        int firstThatFails = plan.playOn(trial);
        if (what == 0) {
            return firstThatFails;
        }
        return what == 1 ? trial.wrongOnes() : trial.cost;
    }

    public int rings(int what) {
        ringList.read(now);
        switch (what) {
            case 0: return ringList.rings;
            case 1: return ringList.longest;
            case 2: return ringList.turnsWanted & 1;
            default: return NONE;
        }
    }

    public int left() {
        return Long.bitCount(now.openPairs());
    }

    public int enough(int what) {
        ringList.read(now);
        if (what == NONE) {
            return ringList.length;
        }
        return what >= 0 && what < ringList.length ? ringList.turns[what] : NO_ANSWER;
    }

    public int home(int body) {
        if (!house.has(body)) {
            return NONE;
        }
        ringList.read(now);
        return ringList.homeBehind[body];
    }

    public int met(int body) {
        return house.has(body) ? now.met[body] : NONE;
    }

    public boolean ready(int one, int other, int third) {
        return now.allowsRound(one, other, third);
    }

    public int best() {
        return search.findLeast(now, 1, true) ? search.turnAt(0) : NONE;
    }

    public int most(int turns) {
        return turns >= 0 && turns <= 3 ? tally.mostWrong(now, turns) : NONE;
    }

    public int fewest(int turns, int what) {
        if (turns < 0 || turns > 5 || what < 0 || what > turns) {
            return NONE;
        }
        if (!search.findHome(now, turns)) {
            return NONE;
        }
        return what == 0 ? search.length : search.turnAt(what - 1);
    }

    public int which(int turns) {
        if (turns < 0 || turns > 5) {
            return NONE;
        }
        int cheapest = NONE;
        for (int body = 0; body < house.bodies; body++) {
            boolean dearer = cheapest != NONE && house.prices[body] >= house.prices[cheapest];
            if (now.allowsFetch(body) && !dearer && leadsHomeWith(body, turns)) {
                cheapest = body;
            }
        }
        return cheapest;
    }

    public int least(int turns, int what) {
        if (turns < 0 || turns > 4 || what < 0 || what > turns + 1) {
            return NONE;
        }
        search.findLeast(now, turns, false);
        switch (what) {
            case 0: return search.wrong;
            case 1: return search.length;
            default: return search.turnAt(what - 2);
        }
    }

    public int cheap(int turns, int what) {
        if (turns < 0 || turns > 5 || what < 0 || what > turns + 1) {
            return NONE;
        }
        if (!search.findCheap(now, turns)) {
            return NONE;
        }
        switch (what) {
            case 0: return search.cost;
            case 1: return search.length;
            default: return search.turnAt(what - 2);
        }
    }

    public int muddles(int turns) {
        return turns >= 0 && turns <= 2 ? tally.muddlesBehind(now, turns) : NONE;
    }

    public int chance(int turns) {
        return turns >= 0 && turns <= 3 ? tally.chanceOfHome(now, turns) : NONE;
    }

    public boolean see(int body, int mind) {
        if (!house.has(body) || !house.has(mind) || now.seenCount >= MOST_SEEN) {
            return false;
        }
        now.addSeen(body, mind);
        return true;
    }

    public int rows(int turns) {
        if (turns < 1 || turns > 3) {
            return NONE;
        }
        tally.countRows(now, turns, false);
        return tally.rowCount;
    }

    public int pair(int turns, int one, int other) throws NoSuchElementException {
        if (turns < 1 || turns > 3 || !house.has(one) || !house.has(other) || one == other) {
            throw new NoSuchElementException("no such turns or no such pair");
        }
        tally.countRows(now, turns, false);
        if (tally.rowCount == 0) {
            throw new NoSuchElementException("no row of turns fits what was seen");
        }
        int pair = pairOf(one, other);
        if ((tally.pairsInAll >> pair & 1) == 1) {
            return 2;
        }
        return (tally.pairsInSome >> pair & 1) == 1 ? 1 : 0;
    }

    public int look(int turns) {
        if (turns < 1 || turns > 3) {
            return NONE;
        }
        tally.countRows(now, turns, true);
        return tally.bodyThatPartsBest();
    }

    public int evenings(int seed, int many, int what) {
        if (seed < 0 || seed > 9999 || many < 1 || many > 50 || what < 0 || what > 2) {
            return NONE;
        }
        long drawn = seed;
        int wrong = 0;
        int undone = 0;
        int costs = 0;
        for (int i = 0; i < many; i++) {
            trial.copy(now);
            drawn = playDrawnTurns(drawn);
            wrong += trial.wrongOnes();
            undone += trial.astray == 0 ? 1 : 0;
            costs += trial.cost - now.cost;
        }
        if (what == 0) {
            return wrong;
        }
        return what == 1 ? undone : costs;
    }

    public boolean mark(int mark, boolean back) {
        if (mark < 0 || mark >= MARKS) {
            return false;
        }
        if (!back) {
            marked[mark].copyWithSeen(now);
            laid |= 1 << mark;
            return true;
        }
        if ((laid >> mark & 1) == 0) {
            return false;
        }
        now.copyWithSeen(marked[mark]);
        pastCount = 0;
        return true;
    }

    public int count(int what) {
        switch (what) {
            case 0: return house.bodies;
            case 1: return Integer.bitCount(house.newBits);
            case 2: return Integer.bitCount(now.there);
            case 3: return now.turns;
            case 4: return now.pairs;
            case 5: return now.wrongOnes();
            case 6: return now.cost;
            case 7: return house.often;
            case 8: return house.pairsIn(house.bars);
            case 9: return plan.lines;
            case 10: return now.seenCount;
            case 11: return pastCount;
            case 12: return tape.length;
            default: return NONE;
        }
    }

    private void remember() {
        past[pastEnd].copy(now);
        pastEnd = Math.floorMod(pastEnd + 1, MOST_UNDONE);
        pastCount = Math.min(pastCount + 1, MOST_UNDONE);
    }

    private boolean leadsHomeWith(int newOne, int turns) {
        trial.copy(now);
        trial.playFetch(newOne);
        return search.findHome(trial, turns);
    }

    /** Plays one evening on the trial and answers where the draws stand then. */
    private long playDrawnTurns(long seed) {
        long drawn = seed;
        for (int i = 0; i < DRAWN_TURNS; i++) {
            long open = trial.openPairs();
            int many = Long.bitCount(open);
            if (many == 0) {
                break;
            }
            drawn = (drawn * 1103515245L + 12345L) % 2147483648L;
            int skipped = (int) (drawn / 65536L % many);
            for (int k = 0; k < skipped; k++) {
                open &= open - 1;
            }
            int pair = Long.numberOfTrailingZeros(open);
            trial.playTurn(lesserOf(pair), greaterOf(pair));
        }
        return drawn;
    }

    private static int pairOf(int one, int other) {
        return MOST_BODIES * Math.min(one, other) + Math.max(one, other);
    }

    private static int lesserOf(int pair) {
        return pair >> 3 & 7;
    }

    private static int greaterOf(int pair) {
        return pair & 7;
    }

    /** The words that mean something; a reserved one is no NAME. */
    private enum Word {
        PERSON("person", true),
        NEW("new", true),
        PRICE("price", true),
        RING("ring", true),
        BEEN("been", true),
        BAR("bar", true),
        OFTEN("often", true),
        COSTS("costs", true),
        TURN("turn", true),
        ROUND("round", true),
        FETCH("fetch", true),
        PLAIN("plain", true),
        ILL("ill", true),
        SHY("shy", true),
        CAT("cat", true),
        NOT("not", true),
        AND("and", true),
        OR("or", true),
        WRONG("wrong", false),
        TURNS("turns", false),
        MET("met", false),
        OTHER("", false);

        private static final Word[] ALL = values();

        private final long letters;
        private final boolean reserved;

        Word(String text, boolean reserved) {
            long sum = 0;
            for (int i = 0; i < text.length(); i++) {
                sum = sum * 27 + (text.charAt(i) - 'a' + 1);
            }
            this.letters = sum;
            this.reserved = reserved;
        }

        static Word spelt(long letters) {
            for (Word word : ALL) {
                if (word.letters == letters) {
                    return word;
                }
            }
            return OTHER;
        }
    }

    /** The signs that were fed, and the token that is being looked at. */
    private static final class Tape {
        private static final String SIGNS = "()<=+-*;";

        private final byte[] signs = new byte[MOST_SIGNS];
        private int length;
        private int next;
        private int place;
        private Word word = Word.OTHER;
        // A WORD is kept as a number in base 27, so that names need no texts of their own.
        private long letters;
        private int number = NONE;
        private char sign;
        private int fault;

        void addBytes(long bytes) {
            for (int shift = 56; shift >= 0; shift -= 8) {
                int sign = (int) (bytes >>> shift) & 255;
                boolean fits = sign == 10 || sign >= 32 && sign <= 126;
                if (fits && length < MOST_SIGNS) {
                    signs[length] = (byte) sign;
                    length++;
                }
            }
        }

        void rewind() {
            next = 0;
            fault = 0;
            advance();
        }

        /** The tape is empty once it was read; what was wrong with it is answered. */
        int finish() {
            length = 0;
            return fault;
        }

        boolean faulty(int kind) {
            fault = kind + 16 * place;
            return false;
        }

        boolean pass(char due) {
            if (sign != due) {
                return faulty(OUT_OF_PLACE);
            }
            advance();
            return true;
        }

        boolean atEnd() {
            return place >= length;
        }

        boolean isName() {
            return letters != 0 && !word.reserved;
        }

        void advance() {
            while (next < length && (signs[next] == 10 || signs[next] == 32)) {
                next++;
            }
            place = next;
            word = Word.OTHER;
            letters = 0;
            number = NONE;
            sign = 0;
            if (next >= length) {
                return;
            }
            if (isLetter(next)) {
                takeWord();
            } else if (isDigit(next)) {
                takeNumber();
            } else {
                takeSign();
            }
        }

        private boolean isLetter(int at) {
            return signs[at] >= 'a' && signs[at] <= 'z';
        }

        private boolean isDigit(int at) {
            return signs[at] >= '0' && signs[at] <= '9';
        }

        private void takeWord() {
            long sum = 0;
            while (next < length && isLetter(next)) {
                sum = sum * 27 + (signs[next] - 'a' + 1);
                next++;
            }
            if (next - place <= MOST_LETTERS) {
                letters = sum;
                word = Word.spelt(sum);
            }
        }

        private void takeNumber() {
            int sum = 0;
            while (next < length && isDigit(next)) {
                sum = sum * 10 + (signs[next] - '0');
                next++;
            }
            if (next - place <= MOST_DIGITS) {
                number = sum;
            }
        }

        private void takeSign() {
            char found = (char) signs[next];
            if (SIGNS.indexOf(found) >= 0) {
                sign = found;
            }
            next++;
        }
    }

    /** The E of costs, in the order in which it is reckoned: what is reckoned with stands ahead of its sign. */
    private static final class Law {
        // Numbers from 0 on stand for themselves, so all other steps are below 0.
        static final int WRONG = -1;
        static final int TURNS = -2;
        static final int MET = -3;
        static final int NOT = -4;
        static final int AND = -5;
        static final int OR = -6;
        static final int LESS = -7;
        static final int SAME = -8;
        static final int PLUS = -9;
        static final int MINUS = -10;
        static final int TIMES = -11;

        private final int[] steps = new int[MOST_SIGNS];
        // Five levels with at most four values waiting on each leave room here.
        private final int[] waiting = new int[32];
        private int length;

        void clear() {
            length = 0;
        }

        void add(int step) {
            if (length < steps.length) {
                steps[length] = step;
                length++;
            }
        }

        int costOf(int wrong, int turns, int met) {
            return Math.max(0, Math.min(MOST_PRICE, value(wrong, turns, met)));
        }

        private int value(int wrong, int turns, int met) {
            int top = 0;
            for (int i = 0; i < length; i++) {
                int step = steps[i];
                if (step >= MET) {
                    if (top < waiting.length) {
                        waiting[top] = plainValue(step, wrong, turns, met);
                        top++;
                    }
                } else if (step == NOT) {
                    if (top >= 1) {
                        waiting[top - 1] = waiting[top - 1] == 0 ? 1 : 0;
                    }
                } else if (top >= 2) {
                    top--;
                    waiting[top - 1] = joined(step, waiting[top - 1], waiting[top]);
                }
            }
            return waiting[0];
        }

        private static int plainValue(int step, int wrong, int turns, int met) {
            switch (step) {
                case WRONG: return wrong;
                case TURNS: return turns;
                case MET: return met;
                default: return step;
            }
        }

        private static int joined(int step, int a, int b) {
            switch (step) {
                case AND: return a != 0 && b != 0 ? 1 : 0;
                case OR: return a != 0 || b != 0 ? 1 : 0;
                case LESS: return a < b ? 1 : 0;
                case SAME: return a == b ? 1 : 0;
                case PLUS: return a + b;
                case MINUS: return a - b;
                default: return a * b;
            }
        }
    }

    /** A CELLAR as it was told. */
    private static final class House {
        private final long[] names = new long[MOST_BODIES];
        private final int[] kinds = new int[MOST_BODIES];
        private final int[] prices = new int[MOST_BODIES];
        private final int[] minds = new int[MOST_BODIES];
        private final int[] been = new int[MOST_BODIES];
        private final int[] bars = new int[MOST_BODIES];
        private final int[] limits = new int[MOST_BODIES];
        private final Law law = new Law();
        private int bodies;
        private int newBits;
        private int catBits;
        private int ringBits;
        private int often;
        private boolean oftenTold;
        private boolean costsTold;

        House() {
            clear();
            close();
        }

        void clear() {
            for (int body = 0; body < MOST_BODIES; body++) {
                minds[body] = body;
                been[body] = 0;
                bars[body] = 0;
            }
            law.clear();
            bodies = 0;
            newBits = 0;
            catBits = 0;
            ringBits = 0;
            often = MOST_OFTEN;
            oftenTold = false;
            costsTold = false;
        }

        /** How often each may can't be known ahead of the end: often may be told last. */
        void close() {
            for (int body = 0; body < bodies; body++) {
                limits[body] = limitOf(kinds[body]);
            }
            if (!costsTold) {
                law.add(Law.WRONG);
            }
        }

        private int limitOf(int kind) {
            if (kind == ILL) {
                return 0;
            }
            return kind == SHY ? Math.min(often, MOST_SAT_BY_SHY) : often;
        }

        boolean has(int body) {
            return body >= 0 && body < bodies;
        }

        int allBits() {
            return (1 << bodies) - 1;
        }

        int peopleBits() {
            return allBits() & ~newBits;
        }

        int named(long letters) {
            for (int body = 0; body < bodies; body++) {
                if (names[body] == letters) {
                    return body;
                }
            }
            return NONE;
        }

        void addBody(long letters, int kind, int price) {
            if (bodies < MOST_BODIES) {
                names[bodies] = letters;
                kinds[bodies] = kind;
                prices[bodies] = price;
                catBits |= kind == CAT ? 1 << bodies : 0;
                bodies++;
            }
        }

        void addNew(long letters, int price) {
            newBits |= 1 << bodies;
            addBody(letters, PLAIN, price);
        }

        int pairsIn(int[] bits) {
            int sum = 0;
            for (int body = 0; body < bodies; body++) {
                sum += Integer.bitCount(bits[body]);
            }
            return sum / 2;
        }
    }

    /** An EVENING as it was told. */
    private static final class Plan {
        private final int[] names = new int[MOST_LINES];
        private final int[] bodies = new int[MOST_LINES * NAMES_OF_ROUND];
        private int lines;

        void clear() {
            lines = 0;
        }

        void put(int name, int body) {
            if (lines < MOST_LINES && name >= 0 && name < NAMES_OF_ROUND) {
                bodies[lines * NAMES_OF_ROUND + name] = body;
            }
        }

        void closeLine(int many) {
            if (lines < MOST_LINES) {
                names[lines] = many;
                lines++;
            }
        }

        /** Plays all lines that can be; answers the first that can't, or NONE. */
        int playOn(Muddle muddle) {
            int firstThatFails = NONE;
            for (int line = 0; line < lines; line++) {
                if (!playLine(muddle, line) && firstThatFails == NONE) {
                    firstThatFails = line;
                }
            }
            return firstThatFails;
        }

        private boolean playLine(Muddle muddle, int line) {
            int first = bodies[line * NAMES_OF_ROUND];
            int second = bodies[line * NAMES_OF_ROUND + 1];
            int third = bodies[line * NAMES_OF_ROUND + 2];
            boolean can;
            if (names[line] == NAMES_OF_FETCH) {
                can = muddle.allowsFetch(first);
                if (can) {
                    muddle.playFetch(first);
                }
            } else if (names[line] == NAMES_OF_TURN) {
                can = muddle.allows(first, second);
                if (can) {
                    muddle.playTurn(first, second);
                }
            } else {
                can = muddle.allowsRound(first, second, third);
                if (can) {
                    muddle.playRound(first, second, third);
                }
            }
            return can;
        }
    }

    /** Reads the TAPE as a CELLAR or as an EVENING; each part answers false at the first FAULT. */
    private static final class Reader {
        private final Tape tape;
        private final LawReader laws;

        Reader(Tape tape) {
            this.tape = tape;
            this.laws = new LawReader(tape);
        }

        int readHouse(House house) {
            house.clear();
            tape.rewind();
            boolean right = true;
            for (int line = 0; right && line < MOST_SIGNS && !tape.atEnd(); line++) {
                right = houseLine(house);
            }
            house.close();
            return tape.finish();
        }

        int readPlan(House house, Plan plan) {
            plan.clear();
            tape.rewind();
            boolean right = true;
            for (int line = 0; right && line < MOST_SIGNS && !tape.atEnd(); line++) {
                right = planLine(house, plan);
            }
            return tape.finish();
        }

        private boolean houseLine(House house) {
            switch (tape.word) {
                case PERSON: return personLine(house);
                case NEW: return newLine(house);
                case RING: return ringLine(house);
                case BEEN: return pairLine(house, house.been);
                case BAR: return pairLine(house, house.bars);
                case OFTEN: return oftenLine(house);
                case COSTS: return laws.costsLine(house);
                default: return tape.faulty(OUT_OF_PLACE);
            }
        }

        private boolean personLine(House house) {
            if (Integer.bitCount(house.peopleBits()) >= MOST_PEOPLE) {
                return tape.faulty(ONE_TOO_MANY);
            }
            tape.advance();
            if (!atUntoldName(house)) {
                return false;
            }
            long letters = tape.letters;
            tape.advance();
            int kind = kindOf(tape.word);
            if (kind == NONE) {
                return tape.faulty(OUT_OF_PLACE);
            }
            house.addBody(letters, kind, 0);
            tape.advance();
            return tape.pass(';');
        }

        private static int kindOf(Word word) {
            switch (word) {
                case PLAIN: return PLAIN;
                case ILL: return ILL;
                case SHY: return SHY;
                case CAT: return CAT;
                default: return NONE;
            }
        }

        private boolean newLine(House house) {
            if (Integer.bitCount(house.newBits) >= MOST_NEW) {
                return tape.faulty(ONE_TOO_MANY);
            }
            tape.advance();
            if (!atUntoldName(house)) {
                return false;
            }
            long letters = tape.letters;
            tape.advance();
            if (tape.word != Word.PRICE) {
                return tape.faulty(OUT_OF_PLACE);
            }
            tape.advance();
            if (!atNumber(0, MOST_PRICE)) {
                return false;
            }
            house.addNew(letters, tape.number);
            tape.advance();
            return tape.pass(';');
        }

        private boolean ringLine(House house) {
            tape.advance();
            int first = NONE;
            int last = NONE;
            for (int size = 0; size <= MOST_PEOPLE; size++) {
                if (size >= 2 && tape.sign == ';') {
                    break;
                }
                int person = toldBody(house, house.peopleBits());
                if (person == NONE) {
                    return false;
                }
                if ((house.ringBits >> person & 1) == 1) {
                    return tape.faulty(TOLD_ALREADY);
                }
                if (size == MOST_PEOPLE) {
                    return tape.faulty(ONE_TOO_MANY);
                }
                house.ringBits |= 1 << person;
                if (first == NONE) {
                    first = person;
                } else {
                    house.minds[person] = last;
                }
                last = person;
                tape.advance();
            }
            if (first != NONE) {
                house.minds[first] = last;
            }
            return tape.pass(';');
        }

        private boolean pairLine(House house, int[] bits) {
            tape.advance();
            int one = toldBody(house, house.peopleBits());
            if (one == NONE) {
                return false;
            }
            tape.advance();
            int other = toldBody(house, house.peopleBits());
            if (other == NONE) {
                return false;
            }
            if (one == other || (bits[one] >> other & 1) == 1) {
                return tape.faulty(TOLD_ALREADY);
            }
            bits[one] |= 1 << other;
            bits[other] |= 1 << one;
            tape.advance();
            return tape.pass(';');
        }

        private boolean oftenLine(House house) {
            if (house.oftenTold) {
                return tape.faulty(TOLD_ALREADY);
            }
            house.oftenTold = true;
            tape.advance();
            if (!atNumber(1, MOST_OFTEN)) {
                return false;
            }
            house.often = tape.number;
            tape.advance();
            return tape.pass(';');
        }

        private boolean planLine(House house, Plan plan) {
            int many = namesOf(tape.word);
            if (many == 0) {
                return tape.faulty(OUT_OF_PLACE);
            }
            if (plan.lines >= MOST_LINES) {
                return tape.faulty(ONE_TOO_MANY);
            }
            int among = many == NAMES_OF_FETCH ? house.newBits : house.allBits();
            int taken = 0;
            for (int name = 0; name < many; name++) {
                tape.advance();
                int body = toldBody(house, among);
                if (body == NONE) {
                    return false;
                }
                if ((taken >> body & 1) == 1) {
                    return tape.faulty(TOLD_ALREADY);
                }
                taken |= 1 << body;
                plan.put(name, body);
            }
            plan.closeLine(many);
            tape.advance();
            return tape.pass(';');
        }

        private static int namesOf(Word word) {
            switch (word) {
                case TURN: return NAMES_OF_TURN;
                case ROUND: return NAMES_OF_ROUND;
                case FETCH: return NAMES_OF_FETCH;
                default: return 0;
            }
        }

        private boolean atUntoldName(House house) {
            if (!tape.isName()) {
                return tape.faulty(OUT_OF_PLACE);
            }
            return house.named(tape.letters) == NONE || tape.faulty(TOLD_ALREADY);
        }

        private boolean atNumber(int lowest, int highest) {
            if (tape.number == NONE) {
                return tape.faulty(OUT_OF_PLACE);
            }
            return tape.number >= lowest && tape.number <= highest || tape.faulty(BAD_NUMBER);
        }

        /** The BODY that the token names if it is among these; else NONE, and the FAULT is noted. */
        private int toldBody(House house, int among) {
            if (!tape.isName()) {
                tape.faulty(OUT_OF_PLACE);
                return NONE;
            }
            int body = house.named(tape.letters);
            if (body == NONE || (among >> body & 1) == 0) {
                tape.faulty(UNTOLD);
                return NONE;
            }
            return body;
        }
    }

    /** Reads the line of costs; the number that is handed on tells within how many of not and ( ) a part lies. */
    private static final class LawReader {
        private final Tape tape;

        LawReader(Tape tape) {
            this.tape = tape;
        }

        boolean costsLine(House house) {
            if (house.costsTold) {
                return tape.faulty(TOLD_ALREADY);
            }
            house.costsTold = true;
            tape.advance();
            return tests(house.law, 0) && tape.pass(';');
        }

        private boolean tests(Law law, int depth) {
            boolean right = test(law, depth);
            for (int i = 0; right && i < MOST_SIGNS; i++) {
                if (tape.word != Word.AND && tape.word != Word.OR) {
                    break;
                }
                int step = tape.word == Word.AND ? Law.AND : Law.OR;
                tape.advance();
                right = test(law, depth);
                law.add(step);
            }
            return right;
        }

        private boolean test(Law law, int depth) {
            if (!sum(law, depth)) {
                return false;
            }
            if (tape.sign != '<' && tape.sign != '=') {
                return true;
            }
            int step = tape.sign == '<' ? Law.LESS : Law.SAME;
            tape.advance();
            boolean right = sum(law, depth);
            law.add(step);
            return right;
        }

        private boolean sum(Law law, int depth) {
            boolean right = product(law, depth);
            for (int i = 0; right && i < MOST_SIGNS; i++) {
                if (tape.sign != '+' && tape.sign != '-') {
                    break;
                }
                int step = tape.sign == '+' ? Law.PLUS : Law.MINUS;
                tape.advance();
                right = product(law, depth);
                law.add(step);
            }
            return right;
        }

        private boolean product(Law law, int depth) {
            boolean right = part(law, depth);
            for (int i = 0; right && i < MOST_SIGNS && tape.sign == '*'; i++) {
                tape.advance();
                right = part(law, depth);
                law.add(Law.TIMES);
            }
            return right;
        }

        private boolean part(Law law, int depth) {
            boolean not = tape.word == Word.NOT;
            boolean bracket = tape.sign == '(';
            int value = valueHere();
            if (!not && !bracket && value == Law.NOT) {
                return tape.faulty(OUT_OF_PLACE);
            }
            if (depth >= MOST_NESTED) {
                return tape.faulty(ONE_TOO_MANY);
            }
            tape.advance();
            if (not) {
                boolean right = part(law, depth + 1);
                law.add(Law.NOT);
                return right;
            }
            if (bracket) {
                return tests(law, depth + 1) && tape.pass(')');
            }
            law.add(value);
            return true;
        }

        /** The step of a NUMBER or a fact; NOT where the token is neither. */
        private int valueHere() {
            if (tape.number != NONE) {
                return tape.number;
            }
            switch (tape.word) {
                case WRONG: return Law.WRONG;
                case TURNS: return Law.TURNS;
                case MET: return Law.MET;
                default: return Law.NOT;
            }
        }
    }

    /** Who is in whom, and all that goes with it, at one time. */
    private static final class Muddle {
        private final int[] minds = new int[MOST_BODIES];
        private final int[] met = new int[MOST_BODIES];
        private final int[] sat = new int[MOST_BODIES];
        private House house;
        private int there;
        // Bits of those there who may sit once more.
        private int open;
        // Bits of those who are WRONG.
        private int astray;
        private int turns;
        private int pairs;
        private int cost;
        // Each that was SEEN takes six bits: three for the BODY, three for the mind.
        private long seen;
        private int seenCount;

        Muddle(House house) {
            this.house = house;
            begin(house);
        }

        void begin(House told) {
            house = told;
            there = told.peopleBits();
            open = 0;
            astray = 0;
            turns = 0;
            pairs = told.pairsIn(told.been);
            cost = 0;
            seen = 0;
            seenCount = 0;
            for (int body = 0; body < MOST_BODIES; body++) {
                minds[body] = told.minds[body];
                met[body] = told.been[body];
                sat[body] = 0;
            }
            for (int body = 0; body < told.bodies; body++) {
                settle(body);
            }
        }

        /** All but what was SEEN, which is no part of what can be undone. */
        void copy(Muddle other) {
            System.arraycopy(other.minds, 0, minds, 0, MOST_BODIES);
            System.arraycopy(other.met, 0, met, 0, MOST_BODIES);
            System.arraycopy(other.sat, 0, sat, 0, MOST_BODIES);
            house = other.house;
            there = other.there;
            open = other.open;
            astray = other.astray;
            turns = other.turns;
            pairs = other.pairs;
            cost = other.cost;
        }

        void copyWithSeen(Muddle other) {
            copy(other);
            seen = other.seen;
            seenCount = other.seenCount;
        }

        int wrongOnes() {
            return Integer.bitCount(astray);
        }

        boolean allows(int one, int other) {
            return house.has(one) && house.has(other) && (partnersOf(one) >> other & 1) == 1;
        }

        boolean allowsRound(int one, int other, int third) {
            return allows(one, other) && allows(other, third) && allows(one, third)
                    && canSitTwice(one) && canSitTwice(other) && canSitTwice(third);
        }

        boolean allowsFetch(int body) {
            return house.has(body) && ((house.newBits & ~there) >> body & 1) == 1;
        }

        private boolean canSitTwice(int body) {
            return sat[body] <= house.limits[body] - 2;
        }

        void playTurn(int one, int other) {
            int pairsAhead = pairs;
            change(one, other);
            cost += house.law.costOf(wrongOnes(), turns - 1, pairsAhead);
        }

        void playRound(int one, int other, int third) {
            int pairsAhead = pairs;
            int carried = minds[third];
            minds[third] = minds[other];
            minds[other] = minds[one];
            minds[one] = carried;
            join(one, other);
            join(other, third);
            join(one, third);
            turns++;
            settle(one);
            settle(other);
            settle(third);
            cost += house.law.costOf(wrongOnes(), turns - 1, pairsAhead);
        }

        void playFetch(int body) {
            there |= 1 << body;
            cost += house.prices[body];
            settle(body);
        }

        void addSeen(int body, int mind) {
            seen = seen << 6 | MOST_BODIES * body + mind;
            seenCount++;
        }

        boolean fitsSeen() {
            long rest = seen;
            for (int i = 0; i < seenCount; i++) {
                int code = (int) (rest & 63);
                if (minds[code >> 3] != (code & 7)) {
                    return false;
                }
                rest >>= 6;
            }
            return true;
        }

        /** Changes minds without a cost, so that changeBack can take it back. */
        void change(int one, int other) {
            swapMinds(one, other);
            join(one, other);
            turns++;
            settle(one);
            settle(other);
        }

        void changeBack(int one, int other) {
            swapMinds(one, other);
            met[one] &= ~(1 << other);
            met[other] &= ~(1 << one);
            sat[one]--;
            sat[other]--;
            pairs--;
            turns--;
            settle(one);
            settle(other);
        }

        void swapMinds(int one, int other) {
            int carried = minds[one];
            minds[one] = minds[other];
            minds[other] = carried;
        }

        private void join(int one, int other) {
            met[one] |= 1 << other;
            met[other] |= 1 << one;
            sat[one]++;
            sat[other]++;
            pairs++;
        }

        private void settle(int body) {
            int bit = 1 << body;
            boolean here = (there & bit) != 0;
            open = here && sat[body] < house.limits[body] ? open | bit : open & ~bit;
            astray = minds[body] != body && (house.catBits & bit) == 0 ? astray | bit : astray & ~bit;
        }

        int partnersOf(int body) {
            if ((open >> body & 1) == 0) {
                return 0;
            }
            return open & ~(met[body] | house.bars[body] | 1 << body);
        }

        /** A bit for each pair that MAY, in the order of pairs from the lowest bit on. */
        long openPairs() {
            long bits = 0;
            for (int one = 0; one < house.bodies; one++) {
                long greater = partnersOf(one) & -2 << one;
                bits |= greater << MOST_BODIES * one;
            }
            return bits;
        }

        int wrongBehind(int one, int other) {
            int wrong = astray & ~(1 << one | 1 << other);
            int swapped = 0;
            swapped |= minds[other] != one ? 1 << one : 0;
            swapped |= minds[one] != other ? 1 << other : 0;
            return Integer.bitCount(wrong | swapped & ~house.catBits);
        }

        /**
         * The fewest TURNS that could leave none WRONG if every pair were free: a TURN parts one ring at most,
         * and a ring is right when only cats, or only one, are left in it.
         */
        int turnsNeeded() {
            int needed = 0;
            int walked = 0;
            for (int body = 0; body < house.bodies; body++) {
                if (minds[body] != body && (walked >> body & 1) == 0) {
                    int ring = ringOf(body);
                    walked |= ring;
                    needed += Integer.bitCount(ring) - Math.max(1, Integer.bitCount(ring & house.catBits));
                }
            }
            return needed;
        }

        int ringOf(int body) {
            int ring = 1 << body;
            int next = minds[body];
            for (int i = 0; i < MOST_BODIES && next != body; i++) {
                ring |= 1 << next;
                next = minds[next];
            }
            return ring;
        }

        /** Those who will stay WRONG whatever is done: they, or who has their mind, can turn with nobody. */
        int stuck() {
            int bits = 0;
            for (int body = 0; body < house.bodies; body++) {
                if (minds[body] != body && partnersOf(body) == 0) {
                    bits |= 1 << body | 1 << minds[body];
                }
            }
            return bits & astray;
        }

        /** The pairs that MAY and by which none could be WRONG behind at most so many TURNS. */
        long hopefulPairs(int turnsLeft) {
            int spare = turnsLeft - turnsNeeded();
            if (spare < 0 || stuck() != 0) {
                return 0;
            }
            return spare == 0 ? openPairs() & pairsWithinRings() : openPairs();
        }

        private long pairsWithinRings() {
            long bits = 0;
            for (int one = 0; one < house.bodies; one++) {
                long ring = ringOf(one);
                bits |= ring << MOST_BODIES * one;
            }
            return bits;
        }

        /** No row of at most so many TURNS can leave fewer WRONG than this. */
        int fewestWrongWithin(int turnsLeft) {
            int lowest = Math.max(Integer.bitCount(stuck()), wrongOnes() - 2 * turnsLeft);
            int needed = turnsNeeded();
            if (needed <= turnsLeft) {
                return lowest;
            }
            // Without cats a ring that is not undone has one WRONG more than TURNS it needs.
            int unfinished = needed - turnsLeft + (house.catBits == 0 ? 1 : 0);
            return Math.max(lowest, unfinished);
        }

        /** Without cats each TURN makes an odd muddle even, so only every second number can lead home. */
        boolean canBeHomeBehindJust(int turnsLeft) {
            return house.catBits != 0 || (turnsLeft - turnsNeeded() & 1) == 0;
        }
    }

    /** RINGS, and how two more would undo them. */
    private static final class RingList {
        private static final int X = 8;
        private static final int Y = 9;

        private final int[] turns = new int[MOST_BODIES * 3];
        private final int[] homeBehind = new int[MOST_BODIES];
        private int length;
        private int rings;
        private int longest;
        private int turnsWanted;

        void read(Muddle muddle) {
            length = 0;
            rings = 0;
            longest = 0;
            turnsWanted = 0;
            int walked = 0;
            for (int body = 0; body < MOST_BODIES; body++) {
                homeBehind[body] = 0;
            }
            for (int body = 0; body < muddle.house.bodies; body++) {
                if (muddle.minds[body] != body && (walked >> body & 1) == 0) {
                    int ring = muddle.ringOf(body);
                    walked |= ring;
                    addRing(muddle, body, Integer.bitCount(ring));
                }
            }
            if ((rings & 1) == 1) {
                addTurn(X, Y);
            }
        }

        private void addRing(Muddle muddle, int first, int size) {
            rings++;
            longest = Math.max(longest, size);
            turnsWanted += size - 1;
            int body = first;
            for (int i = 1; i < size; i++) {
                addTurn(X, body);
                homeBehind[body] = length;
                body = muddle.minds[body];
            }
            addTurn(Y, body);
            addTurn(X, body);
            homeBehind[body] = length;
            addTurn(Y, first);
            homeBehind[first] = length;
        }

        private void addTurn(int one, int other) {
            if (length < turns.length) {
                turns[length] = 10 * one + other;
                length++;
            }
        }
    }

    /** Looks for rows of TURNS: shorter ones first, and those of one length in their order. */
    private static final class Search {
        private final Muddle muddle;
        private final int[] row = new int[LONGEST_ROW];
        private final int[] kept = new int[LONGEST_ROW];
        private int depth;
        private int length;
        private int wrong;
        private int cost;

        Search(House house) {
            muddle = new Muddle(house);
        }

        int turnAt(int i) {
            return i >= 0 && i < length && i < kept.length ? kept[i] : NONE;
        }

        boolean findHome(Muddle from, int mostTurns) {
            muddle.copy(from);
            for (depth = 0; depth <= mostTurns && depth <= LONGEST_ROW; depth++) {
                if (muddle.canBeHomeBehindJust(depth) && leadsHome(depth)) {
                    keepRow();
                    return true;
                }
            }
            return false;
        }

        private boolean leadsHome(int turnsLeft) {
            if (turnsLeft <= 0) {
                return muddle.astray == 0;
            }
            long rest = muddle.hopefulPairs(turnsLeft);
            boolean home = false;
            for (int many = Long.bitCount(rest); many > 0 && !home; many--) {
                int pair = Long.numberOfTrailingZeros(rest);
                rest &= rest - 1;
                tryTurn(turnsLeft, pair);
                home = leadsHome(turnsLeft - 1);
                muddle.changeBack(lesserOf(pair), greaterOf(pair));
            }
            return home;
        }

        /** The least WRONG; where a turn is due the empty row does not count. False: there is no such row. */
        boolean findLeast(Muddle from, int mostTurns, boolean turnIsDue) {
            muddle.copy(from);
            depth = 0;
            wrong = turnIsDue ? MOST_BODIES + 1 : muddle.wrongOnes();
            keepRow();
            for (depth = 1; depth <= mostTurns && depth <= LONGEST_ROW; depth++) {
                lessen(depth);
            }
            return wrong <= MOST_BODIES;
        }

        private void lessen(int turnsLeft) {
            if (turnsLeft <= 0) {
                if (muddle.wrongOnes() < wrong) {
                    wrong = muddle.wrongOnes();
                    keepRow();
                }
                return;
            }
            if (muddle.fewestWrongWithin(turnsLeft) >= wrong) {
                return;
            }
            long rest = muddle.openPairs();
            for (int many = Long.bitCount(rest); many > 0; many--) {
                int pair = Long.numberOfTrailingZeros(rest);
                rest &= rest - 1;
                // The last TURN is only made when it helps: most do not.
                if (turnsLeft > 1 || muddle.wrongBehind(lesserOf(pair), greaterOf(pair)) < wrong) {
                    tryTurn(turnsLeft, pair);
                    lessen(turnsLeft - 1);
                    muddle.changeBack(lesserOf(pair), greaterOf(pair));
                }
            }
        }

        boolean findCheap(Muddle from, int mostTurns) {
            muddle.copy(from);
            cost = Integer.MAX_VALUE;
            for (depth = 0; depth <= mostTurns && depth <= LONGEST_ROW; depth++) {
                if (muddle.canBeHomeBehindJust(depth)) {
                    cheapen(depth, 0);
                }
            }
            return cost != Integer.MAX_VALUE;
        }

        private void cheapen(int turnsLeft, int spent) {
            // No TURN costs less than nothing, so what is as dear already can't become the cheaper one.
            if (spent >= cost) {
                return;
            }
            if (turnsLeft <= 0) {
                if (muddle.astray == 0) {
                    cost = spent;
                    keepRow();
                }
                return;
            }
            long rest = muddle.hopefulPairs(turnsLeft);
            for (int many = Long.bitCount(rest); many > 0; many--) {
                int pair = Long.numberOfTrailingZeros(rest);
                rest &= rest - 1;
                tryTurn(turnsLeft, pair);
                int price = muddle.house.law.costOf(muddle.wrongOnes(), muddle.turns - 1, muddle.pairs - 1);
                cheapen(turnsLeft - 1, spent + price);
                muddle.changeBack(lesserOf(pair), greaterOf(pair));
            }
        }

        private void tryTurn(int turnsLeft, int pair) {
            int at = depth - turnsLeft;
            if (at >= 0 && at < LONGEST_ROW) {
                row[at] = pair;
            }
            muddle.change(lesserOf(pair), greaterOf(pair));
        }

        private void keepRow() {
            length = depth;
            for (int i = 0; i < depth && i < LONGEST_ROW; i++) {
                kept[i] = row[i];
            }
        }
    }

    /** Counts over all rows of just so many TURNS. */
    private static final class Tally {
        private static final int SLOTS = 1024;

        private final Muddle muddle;
        private final int[] codes = new int[SLOTS];
        private final int[] rowsByMind = new int[MOST_BODIES * MOST_BODIES];
        private int codeCount;
        private int mostFound;
        private int rowCount;
        private long pairsInAll;
        private long pairsInSome;
        private boolean minding;

        Tally(House house) {
            muddle = new Muddle(house);
        }

        int mostWrong(Muddle from, int turns) {
            muddle.copy(from);
            mostFound = NONE;
            raise(turns);
            return mostFound;
        }

        private void raise(int turnsLeft) {
            if (turnsLeft <= 0) {
                mostFound = Math.max(mostFound, muddle.wrongOnes());
                return;
            }
            int canBeWrong = Integer.bitCount(muddle.there & ~muddle.house.catBits);
            if (Math.min(canBeWrong, muddle.wrongOnes() + 2 * turnsLeft) <= mostFound) {
                return;
            }
            long rest = muddle.openPairs();
            for (int many = Long.bitCount(rest); many > 0; many--) {
                int one = lesserOf(Long.numberOfTrailingZeros(rest));
                int other = greaterOf(Long.numberOfTrailingZeros(rest));
                rest &= rest - 1;
                if (turnsLeft == 1) {
                    mostFound = Math.max(mostFound, muddle.wrongBehind(one, other));
                } else {
                    muddle.change(one, other);
                    raise(turnsLeft - 1);
                    muddle.changeBack(one, other);
                }
            }
        }

        int muddlesBehind(Muddle from, int turns) {
            muddle.copy(from);
            codeCount = 0;
            for (int i = 0; i < SLOTS; i++) {
                codes[i] = NONE;
            }
            gather(turns);
            return codeCount;
        }

        private void gather(int turnsLeft) {
            if (turnsLeft <= 0) {
                addCode(codeOfMinds());
                return;
            }
            long rest = muddle.openPairs();
            for (int many = Long.bitCount(rest); many > 0; many--) {
                int one = lesserOf(Long.numberOfTrailingZeros(rest));
                int other = greaterOf(Long.numberOfTrailingZeros(rest));
                rest &= rest - 1;
                muddle.change(one, other);
                gather(turnsLeft - 1);
                muddle.changeBack(one, other);
            }
        }

        private int codeOfMinds() {
            int code = 0;
            for (int body = 0; body < muddle.house.bodies; body++) {
                code = MOST_BODIES * code + muddle.minds[body];
            }
            return code;
        }

        /** Two TURNS come to 28 * 27 muddles at most, so a free slot is always found. */
        private void addCode(int code) {
            int slot = Math.floorMod(code * 31 + (code >> 9), SLOTS);
            for (int i = 0; i < SLOTS && codes[slot] != code; i++) {
                if (codes[slot] == NONE) {
                    codes[slot] = code;
                    codeCount++;
                } else {
                    slot = (slot + 1) % SLOTS;
                }
            }
        }

        int chanceOfHome(Muddle from, int turns) {
            muddle.copy(from);
            return shareAtHome(MILLION, turns);
        }

        private int shareAtHome(int share, int turnsLeft) {
            int many = turnsLeft <= 0 ? 0 : Long.bitCount(muddle.openPairs());
            if (many == 0) {
                return muddle.astray == 0 ? share : 0;
            }
            int each = share / many;
            int sum = 0;
            long rest = muddle.hopefulPairs(turnsLeft);
            for (int i = Long.bitCount(rest); i > 0; i--) {
                int one = lesserOf(Long.numberOfTrailingZeros(rest));
                int other = greaterOf(Long.numberOfTrailingZeros(rest));
                rest &= rest - 1;
                muddle.change(one, other);
                sum += shareAtHome(each, turnsLeft - 1);
                muddle.changeBack(one, other);
            }
            return sum;
        }

        void countRows(Muddle from, int turns, boolean byMinds) {
            muddle.copyWithSeen(from);
            minding = byMinds;
            rowCount = 0;
            pairsInAll = -1L;
            pairsInSome = 0;
            for (int i = 0; i < rowsByMind.length; i++) {
                rowsByMind[i] = 0;
            }
            followRows(turns, 0L);
        }

        private void followRows(int turnsLeft, long taken) {
            long rest = muddle.openPairs();
            for (int many = Long.bitCount(rest); many > 0; many--) {
                int pair = Long.numberOfTrailingZeros(rest);
                rest &= rest - 1;
                if (turnsLeft > 1) {
                    muddle.change(lesserOf(pair), greaterOf(pair));
                    followRows(turnsLeft - 1, taken | 1L << pair);
                    muddle.changeBack(lesserOf(pair), greaterOf(pair));
                } else {
                    // Behind the last TURN only the minds are asked for, and these rows are the many.
                    muddle.swapMinds(lesserOf(pair), greaterOf(pair));
                    countRow(taken | 1L << pair);
                    muddle.swapMinds(lesserOf(pair), greaterOf(pair));
                }
            }
        }

        private void countRow(long taken) {
            if (!muddle.fitsSeen()) {
                return;
            }
            rowCount++;
            pairsInAll &= taken;
            pairsInSome |= taken;
            for (int body = 0; minding && body < muddle.house.bodies; body++) {
                rowsByMind[MOST_BODIES * body + muddle.minds[body]]++;
            }
        }

        /** The BODY there that leaves the fewest rows at worst, if it leaves fewer than all. */
        int bodyThatPartsBest() {
            int fewestAtWorst = rowCount;
            int found = NONE;
            for (int body = 0; body < muddle.house.bodies; body++) {
                boolean here = (muddle.there >> body & 1) == 1;
                if (here && rowsAtWorst(body) < fewestAtWorst) {
                    fewestAtWorst = rowsAtWorst(body);
                    found = body;
                }
            }
            return found;
        }

        private int rowsAtWorst(int body) {
            int greatest = 0;
            for (int mind = 0; mind < MOST_BODIES; mind++) {
                greatest = Math.max(greatest, rowsByMind[MOST_BODIES * body + mind]);
            }
            return greatest;
        }
    }
}

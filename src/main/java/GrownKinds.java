import java.util.Arrays;

/** Kinds of things told by a grammar: counted, listed, spelled, read back, drawn and dealt. */
public final class GrownKinds {
    public static final int NONE = -1;

    private static final int NO_SUCH = -2;
    private static final int UNLISTED = -3;
    private static final int FAULTY = -4;
    private static final int REFUSED = -5;

    private static final int TAPE_MOST = 400;
    private static final int KINDS_MOST = 6;
    private static final int TERMS_MOST = 10;
    private static final int PARTS_MOST = 24;
    private static final int DEEP_MOST = 6;
    private static final int NAME_MOST = 8;
    private static final int NUMBER_MOST = 7;
    private static final int ACTS_MOST = 10;
    private static final int SPELLED_MOST = 40;
    private static final int LETTERS = 26;
    private static final int LISTED_MOST = 200;
    private static final int DRAWN_MOST = 1_000_000;
    private static final int DEALT_MOST = 1_000;
    private static final int SEED_MOST = 2_000_000_000;
    private static final int WORD_MOST = 1_073_741_823;
    private static final int WORD_BITS = 30;
    private static final long TOLD_MOST = 1_000_000_000_000L;
    private static final long HUGE = 1_000_000_000_000_000_000L;

    // What a PART is; ROW to RING hold THINGS in a sequence.
    private static final int ATOM = 0;
    private static final int UNIT = 1;
    private static final int NAME = 2;
    private static final int ROW = 3;
    private static final int BAG = 4;
    private static final int SET = 5;
    private static final int RING = 6;
    private static final int GROUP = 7;
    // Words that are no PART.
    private static final int OTHER_WORD = 8;

    // Sizes and letters go from 0 to 7: eight of each in a block.
    private static final int SIZES = 8;
    private static final int BLOCK = 64;
    private static final int ROW_BLOCK = 512;
    private static final int EXPRS_MOST = KINDS_MOST + PARTS_MOST;
    private static final int STEPS_MOST = KINDS_MOST + 2 * PARTS_MOST;
    private static final int KIND_CELLS = KINDS_MOST * SIZES;

    // What a census counts, where it does not go by a letter.
    private static final int PLAIN = -1;
    private static final int LABELLED = -2;

    // A THING in a sequence is told by its size times this, and its RANK.
    private static final int RANKS = 1024;

    private static final int[] FACTORIAL = {1, 1, 2, 6, 24, 120, 720, 5040};
    private static final int[] TOTIENT = {0, 1, 1, 2, 2, 4, 2, 6};
    private static final int[] CHOOSE = {
        1, 0, 0, 0, 0, 0, 0, 0,
        1, 1, 0, 0, 0, 0, 0, 0,
        1, 2, 1, 0, 0, 0, 0, 0,
        1, 3, 3, 1, 0, 0, 0, 0,
        1, 4, 6, 4, 1, 0, 0, 0,
        1, 5, 10, 10, 5, 1, 0, 0,
        1, 6, 15, 20, 15, 6, 1, 0,
        1, 7, 21, 35, 35, 21, 7, 1};

    private final byte[] tape = new byte[TAPE_MOST];
    private int tapeSize = 0;
    private final Grammar now = new Grammar();
    private final Reader reader = new Reader(new Grammar());
    private int faultNumber = 0;
    private int faultPlace = NONE;
    private final Leaning leaning = new Leaning(now);
    private final Census census = new Census(now, true);
    private final Ledger ledger = new Ledger(now, new Census(now, false));
    private final Speller speller = new Speller(now, census, new Sequences(now, census));
    private final ThingReader thingReader = new ThingReader(now);
    private final Roll roll = new Roll(speller);
    private final Dealer dealer = new Dealer(census);
    private final byte[] wanted = new byte[SPELLED_MOST];
    private final int[] acts = new int[ACTS_MOST];
    private int actCount = 0;
    private int stamp = 0;
    private int toldSize = NONE;
    private int toldRank = NONE;

    public GrownKinds() {
    }

    public int feed(int a, int b, int c, int d, int e) {
        if (tapeSize + 20 > TAPE_MOST) {
            return NONE;
        }
        putFour(a);
        putFour(b);
        putFour(c);
        putFour(d);
        putFour(e);
        return tapeSize;
    }

    private void putFour(int number) {
        for (int shift = 24; shift >= 0 && tapeSize < TAPE_MOST; shift -= 8) {
            tape[tapeSize] = (byte) (number >>> shift);
            tapeSize++;
        }
    }

    public int end(int n) {
        if (n < 0 || n > tapeSize) {
            return NONE;
        }
        tapeSize = n;
        return n;
    }

    public int grammar() {
        int lines = reader.read(tape, tapeSize);
        tapeSize = 0;
        faultNumber = reader.fault;
        faultPlace = reader.place;
        if (faultNumber != 0) {
            return FAULTY;
        }
        now.copy(reader.made);
        actCount = 0;
        settle();
        return lines;
    }

    /** What hangs on the GRAMMAR and its OFF TERMS is told anew from here on. */
    private void settle() {
        stamp++;
        dealer.stop();
        leaning.study();
        census.take(PLAIN);
        ledger.forget();
        roll.forget();
    }

    public int fault(int what) {
        if (what == 0) {
            return faultNumber;
        }
        return what == 1 ? faultPlace : NONE;
    }

    public int count(int what) {
        switch (what) {
            case 0: return now.kinds;
            case 1: return now.most;
            case 2: return now.parts;
            case 3: return now.lines;
            case 4: return actCount;
            case 5: return tapeSize;
            default: return NONE;
        }
    }

    private boolean known(int kind) {
        return kind >= 0 && kind < now.kinds;
    }

    private boolean sized(int kind, int n) {
        return known(kind) && n >= 0 && n <= now.most;
    }

    private boolean termed(int kind, int term) {
        return known(kind) && term >= 0 && term < now.termCount[kind];
    }

    private static boolean lettered(int letter) {
        return letter >= 0 && letter < LETTERS;
    }

    private boolean boxy(int kind, int low, int high) {
        return sized(kind, low) && sized(kind, high) && low <= high;
    }

    public int terms(int kind) {
        return known(kind) ? now.termCount[kind] : NO_SUCH;
    }

    public int off(int kind) {
        return known(kind) ? now.off[kind] : NO_SUCH;
    }

    public int letters(int kind) {
        return known(kind) ? leaning.kindLetters[kind] : NO_SUCH;
    }

    public int uses(int kind) {
        return known(kind) ? leaning.kindUses[kind] : NO_SUCH;
    }

    public int reaches(int kind) {
        return known(kind) ? Leaning.closure(leaning.kindUses, kind) : NO_SUCH;
    }

    public int empty(int kind) {
        return known(kind) ? leaning.emptyKinds >> kind & 1 : NO_SUCH;
    }

    public int leans(int kind) {
        return known(kind) ? leaning.kindLeans[kind] : NO_SUCH;
    }

    public int blank() {
        if (now.lines == 0) {
            return NO_SUCH;
        }
        int bits = 0;
        for (int kind = 0; kind < now.kinds; kind++) {
            if (least(kind) == NONE) {
                bits |= 1 << kind;
            }
        }
        return bits;
    }

    public int least(int kind) {
        return first(kind, 1);
    }

    public long things(int kind, int n) {
        return sized(kind, n) ? census.thingsAt(kind, n) : NO_SUCH;
    }

    public long upto(int kind, int n) {
        return boxed(kind, 0, n);
    }

    public long labelled(int kind, int n) {
        return sized(kind, n) ? ledger.labelledThings(kind, n) : NO_SUCH;
    }

    public int first(int kind, long v) {
        if (!known(kind) || v < 1 || v > TOLD_MOST) {
            return NO_SUCH;
        }
        for (int n = 0; n <= now.most; n++) {
            if (census.thingsAt(kind, n) >= v) {
                return n;
            }
        }
        return NONE;
    }

    public long marked(int kind, int n, int letter, int k) {
        if (!sized(kind, n) || !lettered(letter) || k < 0 || k >= SIZES) {
            return NO_SUCH;
        }
        return ledger.markedThings(kind, n, letter, k);
    }

    public long by(int kind, int n, int term) {
        if (!sized(kind, n) || !termed(kind, term)) {
            return NO_SUCH;
        }
        return Math.min(TOLD_MOST, census.byTerm(kind, term, n));
    }

    public long without(int kind, int term, int of, int n) {
        if (!termed(kind, term) || !sized(of, n)) {
            return NO_SUCH;
        }
        return ledger.thingsWithout(kind, term, of, n);
    }

    public int hangs(int kind, int n) {
        if (!sized(kind, n)) {
            return NO_SUCH;
        }
        // A TERM that the KIND does not lead to takes nothing from it.
        int near = Leaning.closure(leaning.kindUses, kind) | 1 << kind;
        long fewest = census.thingsAt(kind, n);
        int best = NONE;
        for (int of = 0; of < now.kinds; of++) {
            for (int term = 0; (near >> of & 1) != 0 && term < now.termCount[of]; term++) {
                long left = now.isOff(of, term) ? fewest : ledger.thingsWithout(of, term, kind, n);
                if (left < fewest) {
                    fewest = left;
                    best = TERMS_MOST * of + term;
                }
            }
        }
        return best;
    }

    public int idle() {
        if (now.lines == 0) {
            return NO_SUCH;
        }
        int idle = 0;
        for (int kind = 0; kind < now.kinds; kind++) {
            for (int term = 0; term < now.termCount[kind]; term++) {
                if (!now.isOff(kind, term) && !census.everBy(kind, term)) {
                    idle++;
                }
            }
        }
        return idle;
    }

    /** 0 if there are such THINGS, and they are LISTED; else what a call answers. */
    private int listing(int kind, int n) {
        if (!sized(kind, n)) {
            return NO_SUCH;
        }
        return census.thingsAt(kind, n) > LISTED_MOST ? UNLISTED : 0;
    }

    /** 0 if there is such a THING, which then is spelled; else what a call answers. */
    private int spelling(int kind, int n, int rank) {
        int answer = listing(kind, n);
        if (answer != 0) {
            return answer;
        }
        if (rank < 0 || rank >= census.thingsAt(kind, n)) {
            return NO_SUCH;
        }
        speller.spell(kind, n, rank, stamp);
        return 0;
    }

    public int length(int kind, int n, int rank) {
        int answer = spelling(kind, n, rank);
        return answer != 0 ? answer : speller.signs;
    }

    public int sign(int kind, int n, int rank, int i) {
        if (i < 0) {
            return NO_SUCH;
        }
        int answer = spelling(kind, n, rank);
        return answer != 0 ? answer : speller.signAt(i);
    }

    public int deep(int kind, int n, int rank) {
        int answer = spelling(kind, n, rank);
        return answer != 0 ? answer : speller.depth;
    }

    public int atoms(int kind, int n, int rank, int letter) {
        if (!lettered(letter)) {
            return NO_SUCH;
        }
        int answer = spelling(kind, n, rank);
        return answer != 0 ? answer : speller.atomCounts[letter];
    }

    public int term(int kind, int n, int rank) {
        int answer = spelling(kind, n, rank);
        return answer != 0 ? answer : speller.topTerm;
    }

    public int symmetries(int kind, int n, int rank) {
        int answer = spelling(kind, n, rank);
        return answer != 0 ? answer : speller.turns;
    }

    public int labels(int kind, int n, int rank) {
        int answer = spelling(kind, n, rank);
        if (answer != 0) {
            return answer;
        }
        return speller.turns < 1 ? FACTORIAL[n] : FACTORIAL[n] / speller.turns;
    }

    public int tells(int kind) {
        if (!known(kind)) {
            return NO_SUCH;
        }
        int length = tapeSize;
        tapeSize = 0;
        int n = thingReader.read(kind, tape, length);
        if (n == NONE) {
            return FAULTY;
        }
        if (census.thingsAt(kind, n) > LISTED_MOST) {
            return UNLISTED;
        }
        int rank = rankOfRead(kind, n, length);
        if (rank == NONE) {
            return FAULTY;
        }
        toldSize = n;
        toldRank = rank;
        return rank;
    }

    /** The RANK of the THING just read: like texts are alike once both are put in the reader's own order. */
    private int rankOfRead(int kind, int n, int length) {
        int weight = 0;
        for (int i = 0; i < length && i < SPELLED_MOST; i++) {
            wanted[i] = thingReader.text[i];
            weight += Speller.weightOf(wanted[i]);
        }
        // The first sign tells the TERM, if there are two or more, and so where among the RANKS it is.
        int from = 0;
        int to = (int) census.thingsAt(kind, n);
        for (int term = 0; now.termCount[kind] > 1 && term <= wanted[0] - '0'; term++) {
            from = term == 0 ? 0 : from + (int) census.byTerm(kind, term - 1, n);
            to = from + (int) census.byTerm(kind, term, n);
        }
        for (int rank = from; rank < to; rank++) {
            speller.spell(kind, n, rank, stamp);
            if (speller.signs == length && speller.weight == weight
                    && thingReader.read(kind, speller.text, length) == n && thingReader.holds(wanted, length)) {
                return rank;
            }
        }
        return NONE;
    }

    public int told(int what) {
        if (what == 0) {
            return toldSize;
        }
        return what == 1 ? toldRank : NONE;
    }

    public int shared(int kind, int other, int n) {
        if (!known(other)) {
            return NO_SUCH;
        }
        int answer = listing(kind, n);
        if (answer != 0) {
            return answer;
        }
        int many = (int) census.thingsAt(kind, n);
        int both = 0;
        for (int rank = 0; rank < many; rank++) {
            speller.spell(kind, n, rank, stamp);
            if (thingReader.read(other, speller.text, speller.signs) != NONE) {
                both++;
            }
        }
        return both;
    }

    /** 0 if there are such THINGS, LISTED, at least one, all of them called up in the roll; else what a call answers. */
    private int rolling(int kind, int n) {
        int answer = listing(kind, n);
        if (answer != 0) {
            return answer;
        }
        int many = (int) census.thingsAt(kind, n);
        if (many == 0) {
            return NONE;
        }
        int which = kind * SIZES + n;
        if (!roll.has(which)) {
            roll.begin(which);
            for (int rank = 0; rank < many; rank++) {
                speller.spell(kind, n, rank, stamp);
                roll.note(which, rank);
            }
        }
        return 0;
    }

    public int deepest(int kind, int n) {
        int answer = rolling(kind, n);
        return answer != 0 ? answer : roll.deepestRank[kind * SIZES + n];
    }

    public int fullest(int kind, int n, int letter) {
        if (!lettered(letter)) {
            return NO_SUCH;
        }
        int answer = rolling(kind, n);
        return answer != 0 ? answer : roll.fullestRank[(kind * SIZES + n) * LETTERS + letter];
    }

    public int stiffest(int kind, int n) {
        int answer = rolling(kind, n);
        return answer != 0 ? answer : roll.stiffestRank[kind * SIZES + n];
    }

    public int chance(int kind, int n, int term, int what) {
        if (!termed(kind, term) || what < 0 || what > 1) {
            return NO_SUCH;
        }
        int answer = listing(kind, n);
        if (answer != 0) {
            return answer;
        }
        return lowest((int) census.byTerm(kind, term, n), (int) census.thingsAt(kind, n), what);
    }

    public int mean(int kind, int n, int letter, int what) {
        if (!lettered(letter) || what < 0 || what > 1) {
            return NO_SUCH;
        }
        int answer = rolling(kind, n);
        if (answer != 0) {
            return answer;
        }
        return lowest(roll.atomSums[(kind * SIZES + n) * LETTERS + letter], (int) census.thingsAt(kind, n), what);
    }

    /** What stands above (0), below (1) in lowest terms; NONE if nothing would stand below. */
    private static int lowest(int above, int below, int what) {
        if (below < 1) {
            return NONE;
        }
        int divisor = below;
        int rest = above;
        for (int i = 0; i < 64 && rest > 0; i++) {
            int next = divisor % rest;
            divisor = rest;
            rest = next;
        }
        return divisor < 1 ? NONE : (what == 0 ? above : below) / divisor;
    }

    public long boxed(int kind, int low, int high) {
        return boxy(kind, low, high) ? census.between(kind, low, high) : NO_SUCH;
    }

    public int bits(int kind, int low, int high) {
        if (!boxy(kind, low, high)) {
            return NO_SUCH;
        }
        long many = census.between(kind, low, high);
        if (many > DRAWN_MOST) {
            return UNLISTED;
        }
        return many == 0 ? NONE : Dealer.bitsFor(many);
    }

    public int drawn(int kind, int low, int high, int word, int what) {
        if (!boxy(kind, low, high) || word < 0 || word > WORD_MOST || what < 0 || what > 1) {
            return NO_SUCH;
        }
        long many = census.between(kind, low, high);
        if (many > DRAWN_MOST) {
            return UNLISTED;
        }
        int number = many == 0 ? NONE : Dealer.draw((int) many, word);
        if (number == NONE) {
            return NONE;
        }
        int size = census.sizeAt(kind, low, number);
        return what == 0 ? size : census.rankAt(kind, low, number);
    }

    public int deal(int kind, int low, int high, int seed) {
        if (!boxy(kind, low, high) || seed < 0 || seed > SEED_MOST) {
            return NO_SUCH;
        }
        long many = census.between(kind, low, high);
        if (many > DEALT_MOST) {
            return UNLISTED;
        }
        dealer.begin(kind, low, (int) many, seed);
        return (int) many;
    }

    public int dealt() {
        return dealer.next();
    }

    public int left() {
        return dealer.leftOver;
    }

    public int takes(int kind, int term) {
        if (!termed(kind, term)) {
            return NO_SUCH;
        }
        if (now.isOff(kind, term) || actCount >= ACTS_MOST) {
            return REFUSED;
        }
        acts[actCount] = kind * TERMS_MOST + term;
        actCount++;
        now.flip(kind, term);
        settle();
        return now.termCount[kind] - Integer.bitCount(now.off[kind]);
    }

    public int undo() {
        if (now.lines == 0) {
            return NO_SUCH;
        }
        if (actCount == 0) {
            return REFUSED;
        }
        takeBack();
        settle();
        return actCount;
    }

    public int anew() {
        if (now.lines == 0) {
            return NO_SUCH;
        }
        int were = actCount;
        for (int i = 0; i < were; i++) {
            takeBack();
        }
        if (were > 0) {
            settle();
        }
        dealer.stop();
        return were;
    }

    private void takeBack() {
        actCount--;
        now.flip(acts[actCount] / TERMS_MOST, acts[actCount] % TERMS_MOST);
    }

    private static long plus(long a, long b) {
        long sum = a + b;
        return sum > HUGE ? HUGE : sum;
    }

    private static long times(long a, long b) {
        if (a <= 0 || b <= 0) {
            return 0;
        }
        return a > HUGE / b ? HUGE : a * b;
    }

    /** In how many ways `many` of `from` THINGS stand together, no two alike (a set) or else (a bag). */
    private static long picks(long from, int many, boolean unlike) {
        long ways = 1;
        for (int i = 1; i <= many; i++) {
            long factor = unlike ? from - i + 1 : from + i - 1;
            if (factor <= 0) {
                return 0;
            }
            if (ways > HUGE / factor) {
                return HUGE;
            }
            ways = ways * factor / i;
        }
        return ways;
    }

    /** PARTS by the places of their first TOKENS: a PART comes before those in it and behind it. */
    private static final class Grammar {
        int most = 0;
        int kinds = 0;
        int lines = 0;
        int parts = 0;
        int steps = 0;
        final int[] type = new int[PARTS_MOST];
        /** An atom's letter, a NAME's KIND, the N of a sequence (0: not told). */
        final int[] value = new int[PARTS_MOST];
        final int[] inside = new int[PARTS_MOST];
        final int[] next = new int[PARTS_MOST];
        final int[] home = new int[PARTS_MOST];
        /** EXPRS: those of KINDS first, then those in brackets by the number of the bracket's PART. */
        final int[] termCount = new int[EXPRS_MOST];
        final int[] firstPart = new int[EXPRS_MOST * TERMS_MOST];
        final int[] off = new int[EXPRS_MOST];
        /** The steps of a census, so that each finds what it needs of its own size. */
        final int[] order = new int[STEPS_MOST];

        void clear() {
            most = 0;
            kinds = 0;
            lines = 0;
            parts = 0;
            steps = 0;
            Arrays.fill(termCount, 0);
            Arrays.fill(off, 0);
        }

        void copy(Grammar from) {
            most = from.most;
            kinds = from.kinds;
            lines = from.lines;
            parts = from.parts;
            steps = from.steps;
            System.arraycopy(from.type, 0, type, 0, PARTS_MOST);
            System.arraycopy(from.value, 0, value, 0, PARTS_MOST);
            System.arraycopy(from.inside, 0, inside, 0, PARTS_MOST);
            System.arraycopy(from.next, 0, next, 0, PARTS_MOST);
            System.arraycopy(from.home, 0, home, 0, PARTS_MOST);
            System.arraycopy(from.termCount, 0, termCount, 0, EXPRS_MOST);
            System.arraycopy(from.firstPart, 0, firstPart, 0, EXPRS_MOST * TERMS_MOST);
            System.arraycopy(from.off, 0, off, 0, EXPRS_MOST);
            System.arraycopy(from.order, 0, order, 0, STEPS_MOST);
        }

        int addPart(int what, int kind) {
            int part = parts;
            if (part >= PARTS_MOST) {
                return NONE;
            }
            type[part] = what;
            value[part] = 0;
            inside[part] = NONE;
            next[part] = NONE;
            home[part] = kind;
            parts++;
            return part;
        }

        int start(int expr, int term) {
            return firstPart[expr * TERMS_MOST + term];
        }

        boolean isOff(int expr, int term) {
            return (off[expr] >> term & 1) != 0;
        }

        void flip(int expr, int term) {
            off[expr] ^= 1 << term;
        }

        boolean isSequence(int part) {
            return type[part] >= ROW && type[part] <= RING;
        }

        /** The EXPR of which a NAME's, a bracket's THINGS are. */
        int exprOf(int part) {
            return type[part] == NAME ? value[part] : KINDS_MOST + part;
        }
    }

    /** Reads a GRAMMAR off the TAPE, up to its first FAULT. */
    private static final class Reader {
        private static final int WORD = 1;
        private static final int NUMBER = 2;
        private static final int END = 3;
        private static final int BAD = 4;

        final Grammar made;
        int fault = 0;
        int place = NONE;
        private final Leaning lean;
        private byte[] bytes = new byte[0];
        private int length = 0;
        private int at = 0;
        private int token = END;
        private int start = 0;
        private int number = 0;
        private int line = 0;
        private final int[] nameStart = new int[KINDS_MOST];
        private final int[] nameLength = new int[KINDS_MOST];

        Reader(Grammar into) {
            made = into;
            lean = new Leaning(into);
        }

        int read(byte[] from, int size) {
            bytes = from;
            length = size;
            at = 0;
            fault = 0;
            place = NONE;
            made.clear();
            advance();
            if (token == END) {
                return 0;
            }
            readHead();
            for (int i = 0; i < TAPE_MOST && fault == 0 && token != END; i++) {
                readLine();
            }
            if (fault == 0) {
                lean.study();
                refuseMeaningless();
            }
            if (fault == 0) {
                lean.layOrder();
            }
            return made.lines;
        }

        private void refuseMeaningless() {
            for (int kind = 0; kind < made.kinds && fault == 0; kind++) {
                if ((Leaning.closure(lean.kindLeans, kind) >> kind & 1) != 0 || lean.holdsEmpty(kind)) {
                    fault = 4;
                    place = kind;
                }
            }
        }

        private void refuse(int why) {
            if (fault == 0) {
                fault = why;
                place = start;
            }
        }

        private static boolean isLetter(int sign) {
            return sign >= 'a' && sign <= 'z';
        }

        private static boolean isDigit(int sign) {
            return sign >= '0' && sign <= '9';
        }

        private void advance() {
            while (at < length && (bytes[at] == ' ' || bytes[at] == 10)) {
                at++;
            }
            start = at;
            if (at >= length) {
                token = END;
                return;
            }
            int sign = bytes[at];
            if (isLetter(sign)) {
                token = WORD;
                while (at < length && isLetter(bytes[at])) {
                    at++;
                }
            } else if (isDigit(sign)) {
                token = NUMBER;
                number = 0;
                while (at < length && isDigit(bytes[at])) {
                    number = Math.min(NUMBER_MOST + 1, number * 10 + bytes[at] - '0');
                    at++;
                }
            } else {
                token = sign == '=' || sign == ';' || sign == '(' || sign == ')' ? sign : BAD;
                at++;
            }
        }

        private boolean isWord(String word) {
            if (token != WORD || at - start != word.length()) {
                return false;
            }
            for (int i = 0; i < word.length(); i++) {
                if (bytes[start + i] != word.charAt(i)) {
                    return false;
                }
            }
            return true;
        }

        /** What PART the TOKEN begins; OTHER_WORD for the other words, NONE for what is no word. */
        private int partBegun() {
            if (token == '(') {
                return GROUP;
            }
            if (token != WORD) {
                return NONE;
            }
            if (isWord("atom")) {
                return ATOM;
            }
            if (isWord("unit")) {
                return UNIT;
            }
            if (isWord("row")) {
                return ROW;
            }
            if (isWord("bag")) {
                return BAG;
            }
            if (isWord("set")) {
                return SET;
            }
            if (isWord("ring")) {
                return RING;
            }
            boolean other = isWord("grammar") || isWord("most") || isWord("or") || isWord("with");
            return other ? OTHER_WORD : NAME;
        }

        private int kindNamed() {
            for (int kind = 0; kind < made.kinds; kind++) {
                if (nameLength[kind] == at - start && sameBytes(nameStart[kind], start, at - start)) {
                    return kind;
                }
            }
            return NONE;
        }

        private boolean sameBytes(int one, int other, int many) {
            for (int i = 0; i < many; i++) {
                if (bytes[one + i] != bytes[other + i]) {
                    return false;
                }
            }
            return true;
        }

        private void expectWord(String word) {
            if (fault == 0 && isWord(word)) {
                advance();
            } else {
                refuse(1);
            }
        }

        private void expectSign(int sign) {
            if (fault == 0 && token == sign) {
                advance();
            } else {
                refuse(1);
            }
        }

        private void readHead() {
            expectWord("grammar");
            expectWord("most");
            if (token != NUMBER) {
                refuse(1);
            } else if (number > NUMBER_MOST) {
                refuse(2);
            }
            if (fault == 0) {
                made.most = number;
                advance();
            }
            for (int i = 0; i <= KINDS_MOST && fault == 0 && (i == 0 || token != ';'); i++) {
                readName();
            }
            expectSign(';');
            made.lines = 1;
        }

        private void readName() {
            if (partBegun() != NAME) {
                refuse(1);
            } else if (at - start > NAME_MOST || kindNamed() != NONE) {
                refuse(2);
            } else if (made.kinds >= KINDS_MOST) {
                refuse(3);
            } else {
                nameStart[made.kinds] = start;
                nameLength[made.kinds] = at - start;
                made.kinds++;
                advance();
            }
        }

        private void readLine() {
            if (partBegun() != NAME) {
                refuse(1);
                return;
            }
            line = kindNamed();
            if (line == NONE || made.termCount[line] > 0) {
                refuse(2);
                return;
            }
            advance();
            expectSign('=');
            if (fault == 0) {
                readExpr(line, 0);
            }
            expectSign(';');
            made.lines++;
        }

        private void readExpr(int expr, int deep) {
            for (int term = 0; term <= TERMS_MOST && fault == 0; term++) {
                int first = readTerm(deep, term == TERMS_MOST);
                if (fault != 0 || term == TERMS_MOST) {
                    return;
                }
                made.firstPart[expr * TERMS_MOST + term] = first;
                made.termCount[expr] = term + 1;
                if (!isWord("or")) {
                    return;
                }
                advance();
            }
        }

        private int readTerm(int deep, boolean tooMany) {
            int first = readPart(deep, tooMany);
            int last = first;
            for (int i = 0; i < PARTS_MOST && fault == 0 && isWord("with"); i++) {
                advance();
                int part = readPart(deep, false);
                if (fault == 0 && last != NONE) {
                    made.next[last] = part;
                }
                last = part;
            }
            return first;
        }

        private int faultOfPart(int what, int kind, int deep, boolean tooMany) {
            if (what == NONE || what == OTHER_WORD) {
                return 1;
            }
            if (what == NAME && kind == NONE) {
                return 2;
            }
            boolean tooDeep = what >= ROW && deep >= DEEP_MOST;
            return tooMany || tooDeep || made.parts >= PARTS_MOST ? 3 : 0;
        }

        private int readPart(int deep, boolean tooMany) {
            int what = partBegun();
            int kind = what == NAME ? kindNamed() : NONE;
            int why = faultOfPart(what, kind, deep, tooMany);
            int part = why == 0 ? made.addPart(what, line) : NONE;
            if (part == NONE) {
                refuse(why == 0 ? 3 : why);
                return NONE;
            }
            if (what == NAME) {
                made.value[part] = kind;
            }
            advance();
            if (what == ATOM) {
                readLetter(part);
            } else if (what == GROUP) {
                readExpr(KINDS_MOST + part, deep + 1);
                expectSign(')');
            } else if (what >= ROW) {
                readMany(part);
                if (fault == 0) {
                    made.inside[part] = readPart(deep + 1, false);
                }
            }
            return part;
        }

        private void readLetter(int part) {
            if (token != WORD) {
                refuse(1);
            } else if (at - start > 1) {
                refuse(2);
            } else {
                made.value[part] = bytes[start] - 'a';
                advance();
            }
        }

        private void readMany(int part) {
            if (token != NUMBER) {
                return;
            }
            if (number < 1 || number > NUMBER_MOST) {
                refuse(2);
            } else {
                made.value[part] = number;
                advance();
            }
        }
    }

    /** Which PARTS and KINDS are EMPTY, on which they LEAN, what stands in them, OFF TERMS aside. */
    private static final class Leaning {
        private final Grammar grammar;
        private int emptyParts = 0;
        int emptyKinds = 0;
        private final int[] leans = new int[PARTS_MOST];
        private final int[] uses = new int[PARTS_MOST];
        private final int[] letters = new int[PARTS_MOST];
        final int[] kindLeans = new int[KINDS_MOST];
        final int[] kindUses = new int[KINDS_MOST];
        final int[] kindLetters = new int[KINDS_MOST];

        Leaning(Grammar of) {
            grammar = of;
        }

        void study() {
            findEmpty();
            for (int part = grammar.parts - 1; part >= 0; part--) {
                studyPart(part);
            }
            for (int kind = 0; kind < grammar.kinds; kind++) {
                kindLeans[kind] = exprLeans(kind);
                kindUses[kind] = exprHas(kind, uses);
                kindLetters[kind] = exprHas(kind, letters);
            }
        }

        /** KINDS that one leads to, by one step or more. */
        static int closure(int[] direct, int kind) {
            int found = direct[kind];
            for (int round = 0; round < KINDS_MOST; round++) {
                for (int other = 0; other < KINDS_MOST; other++) {
                    if ((found >> other & 1) != 0) {
                        found |= direct[other];
                    }
                }
            }
            return found;
        }

        private void findEmpty() {
            emptyParts = 0;
            emptyKinds = 0;
            boolean more = true;
            // Each round but the last one finds one more at least.
            for (int round = 0; round <= STEPS_MOST && more; round++) {
                int parts = emptyParts;
                int kinds = emptyKinds;
                for (int part = grammar.parts - 1; part >= 0; part--) {
                    emptyParts |= partIsEmpty(part) ? 1 << part : 0;
                }
                for (int kind = 0; kind < grammar.kinds; kind++) {
                    emptyKinds |= exprIsEmpty(kind) ? 1 << kind : 0;
                }
                more = parts != emptyParts || kinds != emptyKinds;
            }
        }

        private boolean partIsEmpty(int part) {
            int type = grammar.type[part];
            if (type == ATOM || type == UNIT) {
                return type == UNIT;
            }
            if (type == NAME) {
                return (emptyKinds >> grammar.value[part] & 1) != 0;
            }
            if (type == GROUP) {
                return exprIsEmpty(KINDS_MOST + part);
            }
            return type != RING && grammar.value[part] == 0 || isEmpty(grammar.inside[part]);
        }

        boolean isEmpty(int part) {
            return part >= 0 && (emptyParts >> part & 1) != 0;
        }

        private boolean exprIsEmpty(int expr) {
            for (int term = 0; term < grammar.termCount[expr]; term++) {
                if (!grammar.isOff(expr, term) && allEmpty(grammar.start(expr, term), NONE)) {
                    return true;
                }
            }
            return false;
        }

        /** Whether PARTS from one to the end of its TERM are EMPTY, one of them aside. */
        private boolean allEmpty(int from, int aside) {
            int part = from;
            for (int i = 0; i < PARTS_MOST && part != NONE; i++) {
                if (part != aside && !isEmpty(part)) {
                    return false;
                }
                part = grammar.next[part];
            }
            return true;
        }

        private void studyPart(int part) {
            int type = grammar.type[part];
            int inside = grammar.inside[part];
            if (type == GROUP) {
                int expr = KINDS_MOST + part;
                leans[part] = exprLeans(expr);
                uses[part] = exprHas(expr, uses);
                letters[part] = exprHas(expr, letters);
            } else if (inside != NONE) {
                leans[part] = grammar.value[part] <= 1 ? leans[inside] : 0;
                uses[part] = uses[inside];
                letters[part] = letters[inside];
            } else {
                leans[part] = type == NAME ? 1 << grammar.value[part] : 0;
                uses[part] = leans[part];
                letters[part] = type == ATOM ? 1 << grammar.value[part] : 0;
            }
        }

        private int exprLeans(int expr) {
            int found = 0;
            for (int term = 0; term < grammar.termCount[expr]; term++) {
                int first = grammar.start(expr, term);
                int part = grammar.isOff(expr, term) ? NONE : first;
                for (int i = 0; i < PARTS_MOST && part != NONE; i++) {
                    found |= allEmpty(first, part) ? leans[part] : 0;
                    part = grammar.next[part];
                }
            }
            return found;
        }

        private int exprHas(int expr, int[] what) {
            int found = 0;
            for (int term = 0; term < grammar.termCount[expr]; term++) {
                int part = grammar.isOff(expr, term) ? NONE : grammar.start(expr, term);
                for (int i = 0; i < PARTS_MOST && part != NONE; i++) {
                    found |= what[part];
                    part = grammar.next[part];
                }
            }
            return found;
        }

        boolean holdsEmpty(int kind) {
            for (int part = 0; part < grammar.parts; part++) {
                if (grammar.home[part] == kind && isEmpty(grammar.inside[part])) {
                    return true;
                }
            }
            return false;
        }

        /** Lays the steps of a census: of KINDS, of PARTS to the ends of their TERMS (even), of PARTS alone (odd). */
        void layOrder() {
            long laid = 0;
            boolean more = true;
            grammar.steps = 0;
            for (int round = 0; round < STEPS_MOST && more; round++) {
                more = false;
                for (int step = KINDS_MOST + 2 * grammar.parts - 1; step >= 0; step--) {
                    if ((laid >> step & 1) == 0 && isReady(step, laid)) {
                        grammar.order[grammar.steps] = step;
                        grammar.steps++;
                        laid |= 1L << step;
                        more = true;
                    }
                }
            }
        }

        private static boolean hasOwn(long laid, int part) {
            return (laid >> KINDS_MOST + 2 * part + 1 & 1) != 0;
        }

        private static boolean hasTail(long laid, int part) {
            return (laid >> KINDS_MOST + 2 * part & 1) != 0;
        }

        private boolean isReady(int step, long laid) {
            if (step < KINDS_MOST) {
                return step < grammar.kinds && termsLaid(step, laid);
            }
            int part = (step - KINDS_MOST) / 2;
            if ((step - KINDS_MOST) % 2 == 1) {
                return partReady(part, laid);
            }
            int next = grammar.next[part];
            boolean needsOwn = allEmpty(next, NONE);
            boolean needsNext = next != NONE && isEmpty(part);
            return (!needsOwn || hasOwn(laid, part)) && (!needsNext || hasTail(laid, next));
        }

        private boolean partReady(int part, long laid) {
            int type = grammar.type[part];
            if (type == NAME) {
                return (laid >> grammar.value[part] & 1) != 0;
            }
            if (type == GROUP) {
                return termsLaid(KINDS_MOST + part, laid);
            }
            // Two or more THINGS that are not EMPTY are smaller than what they are in.
            int inside = grammar.inside[part];
            return inside == NONE || grammar.value[part] > 1 || hasOwn(laid, inside);
        }

        private boolean termsLaid(int expr, long laid) {
            for (int term = 0; term < grammar.termCount[expr]; term++) {
                if (!hasTail(laid, grammar.start(expr, term))) {
                    return false;
                }
            }
            return true;
        }
    }

    /** Numbers of THINGS by size (and by atoms of a letter) of every PART, TERM and KIND. */
    private static final class Census {
        private final Grammar grammar;
        private int mode = PLAIN;
        private final long[] own = new long[PARTS_MOST * BLOCK];
        private final long[] tail = new long[PARTS_MOST * BLOCK];
        private final long[] total = new long[KINDS_MOST * BLOCK];
        /** Of a sequence: how many of so many THINGS, by size and letter. */
        private final long[] rows = new long[PARTS_MOST * ROW_BLOCK];
        private final long[] ways = new long[SIZES];
        /** Of a bag, a set: the rows above, while there were no THINGS in it above a size. */
        private final long[] stages;

        /** Stages are for finding bags by RANK: a census that only counts has none. */
        Census(Grammar of, boolean hasStages) {
            grammar = of;
            stages = new long[hasStages ? PARTS_MOST * ROW_BLOCK : 0];
        }

        /** Counts by a letter (0 .. 25), PLAIN or LABELLED. */
        void take(int how) {
            mode = how;
            // What is not EMPTY is multiplied by its 0 ahead of being counted.
            for (int part = 0; part < grammar.parts; part++) {
                own[part * BLOCK] = 0;
                tail[part * BLOCK] = 0;
            }
            for (int n = 0; n <= grammar.most; n++) {
                for (int i = 0; i < grammar.steps; i++) {
                    int step = grammar.order[i];
                    int part = (step - KINDS_MOST) / 2;
                    if (step < KINDS_MOST) {
                        sumTerms(step, n, total, step * BLOCK + n * SIZES);
                    } else if ((step - KINDS_MOST) % 2 == 1) {
                        countPart(part, n);
                    } else {
                        countTail(part, n);
                    }
                }
            }
        }

        long totalAt(int kind, int n, int k) {
            return Math.min(TOLD_MOST, total[kind * BLOCK + n * SIZES + k]);
        }

        long thingsAt(int kind, int n) {
            return Math.min(TOLD_MOST, total[kind * BLOCK + n * SIZES]);
        }

        long of(int part, int n) {
            return own[part * BLOCK + n * SIZES];
        }

        /** Of all PARTS from one to the end of its TERM; behind the end there is one of size 0. */
        long from(int part, int n) {
            if (part == NONE) {
                return n == 0 ? 1 : 0;
            }
            return tail[part * BLOCK + n * SIZES];
        }

        long byTerm(int kind, int term, int n) {
            return grammar.isOff(kind, term) ? 0 : from(grammar.start(kind, term), n);
        }

        boolean everBy(int kind, int term) {
            for (int n = 0; n <= grammar.most; n++) {
                if (byTerm(kind, term, n) > 0) {
                    return true;
                }
            }
            return false;
        }

        long between(int kind, int low, int high) {
            long sum = 0;
            for (int n = low; n <= high; n++) {
                sum = Math.min(TOLD_MOST, sum + thingsAt(kind, n));
            }
            return sum;
        }

        /** The size of a number of a BOX. */
        int sizeAt(int kind, int low, int number) {
            long rest = number;
            int n = low;
            while (n < grammar.most && rest >= thingsAt(kind, n)) {
                rest -= thingsAt(kind, n);
                n++;
            }
            return n;
        }

        int rankAt(int kind, int low, int number) {
            int size = sizeAt(kind, low, number);
            return size > low ? number - (int) between(kind, low, size - 1) : number;
        }

        /** How many rows of `many` THINGS (0: of any number, NONE: it can't be) a row or ring could have. */
        long rowsLeft(int part, int many, int n) {
            if (grammar.value[part] != 0) {
                return many < 0 ? 0 : rowsOf(part, many, n, 0);
            }
            long sum = n == 0 ? 1 : 0;
            for (int j = 1; j <= n; j++) {
                sum = plus(sum, rowsOf(part, j, n, 0));
            }
            return sum;
        }

        private int letterTop(int n) {
            return mode >= 0 ? n : 0;
        }

        private void sumTerms(int expr, int n, long[] into, int base) {
            for (int k = 0; k <= letterTop(n); k++) {
                long sum = 0;
                for (int term = 0; term < grammar.termCount[expr]; term++) {
                    if (!grammar.isOff(expr, term)) {
                        sum = plus(sum, tail[grammar.start(expr, term) * BLOCK + n * SIZES + k]);
                    }
                }
                into[base + k] = sum;
            }
        }

        private void countPart(int part, int n) {
            int base = part * BLOCK + n * SIZES;
            int type = grammar.type[part];
            if (type == GROUP) {
                sumTerms(KINDS_MOST + part, n, own, base);
            } else if (type == NAME) {
                copyCells(total, grammar.value[part] * BLOCK + n * SIZES, own, base, n);
            } else if (grammar.isSequence(part)) {
                countSequence(part, n);
            } else {
                clearCells(own, base, n);
                int k = type == ATOM && mode == grammar.value[part] ? 1 : 0;
                if (n == (type == ATOM ? 1 : 0)) {
                    own[base + k] = 1;
                }
            }
        }

        private void clearCells(long[] cells, int base, int n) {
            for (int k = 0; k <= letterTop(n); k++) {
                cells[base + k] = 0;
            }
        }

        private void copyCells(long[] from, int fromBase, long[] to, int toBase, int n) {
            for (int k = 0; k <= letterTop(n); k++) {
                to[toBase + k] = from[fromBase + k];
            }
        }

        private long weight(int n, int i) {
            return mode == LABELLED ? CHOOSE[n * SIZES + i] : 1;
        }

        private void countTail(int part, int n) {
            int base = part * BLOCK + n * SIZES;
            int next = grammar.next[part];
            if (next == NONE) {
                copyCells(own, base, tail, base, n);
                return;
            }
            clearCells(tail, base, n);
            for (int i = 0; i <= n; i++) {
                for (int a = 0; a <= letterTop(i); a++) {
                    long here = times(own[part * BLOCK + i * SIZES + a], weight(n, i));
                    for (int b = 0; here > 0 && b <= letterTop(n - i); b++) {
                        long there = tail[next * BLOCK + (n - i) * SIZES + b];
                        tail[base + a + b] = plus(tail[base + a + b], times(here, there));
                    }
                }
            }
        }

        private void countSequence(int part, int n) {
            int base = part * BLOCK + n * SIZES;
            int many = grammar.value[part];
            int type = grammar.type[part];
            clearCells(own, base, n);
            if (n == 0) {
                clearRows(part);
                keepStage(part, 0);
                own[base] = many == 0 && type != RING ? 1 : 0;
                return;
            }
            if (many == 1) {
                copyCells(own, grammar.inside[part] * BLOCK + n * SIZES, own, base, n);
                return;
            }
            if (inClasses(part)) {
                // Of a told number (two or more) none is as large as all of them.
                addClasses(part, many == 0 ? n : n - 1);
            } else {
                growRows(part, n);
            }
            for (int j = many == 0 ? 1 : many; j <= (many == 0 ? n : many); j++) {
                for (int k = 0; k <= letterTop(n); k++) {
                    own[base + k] = plus(own[base + k], sequencesOf(part, j, n, k));
                }
            }
        }

        private boolean inClasses(int part) {
            return mode != LABELLED && (grammar.type[part] == BAG || grammar.type[part] == SET);
        }

        private void clearRows(int part) {
            for (int j = 0; j < SIZES; j++) {
                for (int n = 0; n <= grammar.most; n++) {
                    clearCells(rows, part * ROW_BLOCK + j * BLOCK + n * SIZES, n);
                }
            }
            rows[part * ROW_BLOCK] = 1;
        }

        private long rowsOf(int part, int many, int n, int k) {
            if (many == 1) {
                return own[grammar.inside[part] * BLOCK + n * SIZES + k];
            }
            return rows[part * ROW_BLOCK + many * BLOCK + n * SIZES + k];
        }

        private long sequencesOf(int part, int many, int n, int k) {
            int type = grammar.type[part];
            if (inClasses(part)) {
                return rows[part * ROW_BLOCK + many * BLOCK + n * SIZES + k];
            }
            if (type == RING) {
                return ringsOf(part, many, n, k);
            }
            // With numbers on them no two are alike: each bag stands in as many rows as its THINGS have orders.
            return rowsOf(part, many, n, k) / (type == ROW ? 1 : FACTORIAL[many]);
        }

        /** Burnside: rows that are as before by each turn, by the number of turns; labelled ones by no turn. */
        private long ringsOf(int part, int many, int n, int k) {
            long sum = 0;
            for (int d = 1; d <= (mode == LABELLED ? 1 : many); d++) {
                if (many % d == 0 && n % d == 0 && k % d == 0) {
                    sum += TOTIENT[d] * rowsOf(part, many / d, n / d, k / d);
                }
            }
            return many < 1 ? 0 : sum / many;
        }

        private int longest(int part) {
            return grammar.value[part] == 0 ? grammar.most : grammar.value[part];
        }

        private void growRows(int part, int n) {
            for (int j = 2; j <= Math.min(n, longest(part)); j++) {
                int base = part * ROW_BLOCK + j * BLOCK + n * SIZES;
                for (int i = 1; i < n; i++) {
                    for (int a = 0; a <= letterTop(i); a++) {
                        long here = times(rowsOf(part, 1, i, a), weight(n, i));
                        for (int b = 0; here > 0 && b <= letterTop(n - i); b++) {
                            long there = rowsOf(part, j - 1, n - i, b);
                            rows[base + a + b] = plus(rows[base + a + b], times(here, there));
                        }
                    }
                }
            }
        }

        /** THINGS of one size come into bags (sets) of all smaller ones. */
        private void addClasses(int part, int size) {
            for (int k = 0; size > 0 && k <= letterTop(size); k++) {
                long from = rowsOf(part, 1, size, k);
                if (from > 0) {
                    for (int i = 1; i < SIZES && i * size <= grammar.most; i++) {
                        ways[i] = picks(from, i, grammar.type[part] == SET);
                    }
                    for (int n = grammar.most; n >= size; n--) {
                        addClass(part, n, size, k);
                    }
                }
            }
            keepStage(part, size);
        }

        /** By their number, if that is told; else all together, as of number 0. */
        private void keepStage(int part, int size) {
            if (mode != PLAIN || stages.length == 0) {
                return;
            }
            int base = part * ROW_BLOCK + size * BLOCK;
            for (int n = 0; n <= grammar.most; n++) {
                long all = 0;
                for (int j = 0; j <= longest(part); j++) {
                    long here = rows[part * ROW_BLOCK + j * BLOCK + n * SIZES];
                    stages[base + j * SIZES + n] = here;
                    all = plus(all, here);
                }
                if (grammar.value[part] == 0) {
                    stages[base + n] = all;
                }
            }
        }

        /** How many bags (sets) of a number of THINGS (0 if none is told) there are, of sizes up to one. */
        long bagsUpTo(int part, int many, int n, int size) {
            int cell = part * ROW_BLOCK + size * BLOCK + many * SIZES + n;
            return cell >= 0 && cell < stages.length ? stages[cell] : 0;
        }

        private void addClass(int part, int n, int size, int k) {
            int base = part * ROW_BLOCK;
            for (int j = Math.min(n, longest(part)); j >= 1; j--) {
                for (int q = letterTop(n); q >= 0; q--) {
                    int cell = base + j * BLOCK + n * SIZES + q;
                    for (int i = 1; i <= j && i * size <= n && i * k <= q; i++) {
                        long there = rows[base + (j - i) * BLOCK + (n - i * size) * SIZES + q - i * k];
                        rows[cell] = plus(rows[cell], times(ways[i], there));
                    }
                }
            }
        }
    }

    /** What other censuses told, kept until the GRAMMAR or its OFF TERMS change. */
    private static final class Ledger {
        private final Grammar grammar;
        private final Census census;
        private boolean hasLabelled = false;
        /** Letters, TERMS (ten of each KIND) that have been counted by, without, as bits. */
        private int lettersDone = 0;
        private long termsDone = 0;
        private final long[] labels = new long[KIND_CELLS];
        private final long[] marks = new long[LETTERS * KIND_CELLS * SIZES];
        private final long[] rest = new long[KINDS_MOST * TERMS_MOST * KIND_CELLS];

        Ledger(Grammar of, Census by) {
            grammar = of;
            census = by;
        }

        void forget() {
            hasLabelled = false;
            lettersDone = 0;
            termsDone = 0;
        }

        private void keep(long[] into, int base) {
            for (int kind = 0; kind < grammar.kinds; kind++) {
                for (int n = 0; n <= grammar.most; n++) {
                    into[base + kind * SIZES + n] = census.thingsAt(kind, n);
                }
            }
        }

        long labelledThings(int kind, int n) {
            if (!hasLabelled) {
                census.take(LABELLED);
                keep(labels, 0);
                hasLabelled = true;
            }
            return labels[kind * SIZES + n];
        }

        long markedThings(int kind, int n, int letter, int k) {
            int base = letter * KIND_CELLS * SIZES;
            if ((lettersDone >> letter & 1) == 0) {
                census.take(letter);
                keepMarks(base);
                lettersDone |= 1 << letter;
            }
            return k > n ? 0 : marks[base + kind * BLOCK + n * SIZES + k];
        }

        private void keepMarks(int base) {
            for (int kind = 0; kind < grammar.kinds; kind++) {
                for (int n = 0; n <= grammar.most; n++) {
                    for (int k = 0; k <= n; k++) {
                        marks[base + kind * BLOCK + n * SIZES + k] = census.totalAt(kind, n, k);
                    }
                }
            }
        }

        long thingsWithout(int kind, int term, int of, int n) {
            int which = kind * TERMS_MOST + term;
            if ((termsDone >> which & 1) == 0) {
                boolean was = grammar.isOff(kind, term);
                if (!was) {
                    grammar.flip(kind, term);
                }
                census.take(PLAIN);
                keep(rest, which * KIND_CELLS);
                if (!was) {
                    grammar.flip(kind, term);
                }
                termsDone |= 1L << which;
            }
            return rest[which * KIND_CELLS + of * SIZES + n];
        }
    }

    /** All rings of one PART and size, in ORDER. */
    private static final class RingList {
        int stamp = NONE;
        int many = 0;
        final int[] codes = new int[LISTED_MOST * SIZES];
    }

    /** The THINGS that stand in a row, bag, set or ring of a RANK, each told by its size and RANK. */
    private static final class Sequences {
        private final Grammar grammar;
        private final Census census;
        int many = 0;
        final int[] codes = new int[SIZES];
        private final RingList[] rings = new RingList[PARTS_MOST * SIZES];
        private int inside = 0;

        Sequences(Grammar of, Census by) {
            grammar = of;
            census = by;
        }

        void findRow(int part, int n, int rank) {
            many = 0;
            inside = grammar.inside[part];
            int left = n;
            long number = rank;
            for (int i = 1; i < SIZES && left > 0; i++) {
                int size = 1;
                long behind = census.rowsLeft(part, grammar.value[part] - i, left - size);
                while (size < left && number >= times(census.of(inside, size), behind)) {
                    number -= times(census.of(inside, size), behind);
                    size++;
                    behind = census.rowsLeft(part, grammar.value[part] - i, left - size);
                }
                if (behind < 1) {
                    return;
                }
                add(size, number / behind);
                number %= behind;
                left -= size;
            }
        }

        private void add(int size, long rank) {
            if (many < SIZES) {
                codes[many] = size * RANKS + (int) Math.min(rank, RANKS - 1);
                many++;
            }
        }

        /** How many bags (sets) have THINGS of sizes up to one, and only the first few of this size. */
        private long bagsWithin(int part, int count, int n, int size, long few) {
            int told = grammar.value[part];
            long sum = 0;
            for (int i = 0; i * size <= n && (told == 0 || i <= count); i++) {
                long ways = picks(few, i, grammar.type[part] == SET);
                if (ways == 0) {
                    return sum;
                }
                long others = census.bagsUpTo(part, told == 0 ? 0 : count - i, n - i * size, size - 1);
                sum = plus(sum, times(ways, others));
            }
            return sum;
        }

        /** The greatest THING first: the least one so that more bags than `rank` have none greater. */
        void findBag(int part, int n, int rank) {
            many = 0;
            inside = grammar.inside[part];
            int count = grammar.value[part];
            if (count == 1) {
                add(n, rank);
                return;
            }
            int left = n;
            long number = rank;
            for (int i = 0; i < SIZES && left > 0; i++) {
                int size = 1;
                while (size < left && census.bagsUpTo(part, count, left, size) <= number) {
                    size++;
                }
                long low = 0;
                long high = Math.min(RANKS, census.of(inside, size)) - 1;
                while (low < high) {
                    long middle = (low + high) / 2;
                    if (bagsWithin(part, count, left, size, middle + 1) > number) {
                        high = middle;
                    } else {
                        low = middle + 1;
                    }
                }
                number -= bagsWithin(part, count, left, size, low);
                add(size, low);
                left -= size;
                count = Math.max(0, count - 1);
            }
        }

        void findRing(int part, int n, int rank, int stamp) {
            inside = grammar.inside[part];
            int which = part * SIZES + n;
            RingList list = rings[which];
            if (list == null) {
                list = new RingList();
                rings[which] = list;
            }
            if (list.stamp != stamp) {
                list.stamp = stamp;
                list.many = 0;
                many = 0;
                listRings(part, n, list);
            }
            many = 0;
            for (int i = 0; rank < list.many && i < SIZES && list.codes[rank * SIZES + i] != 0; i++) {
                codes[i] = list.codes[rank * SIZES + i];
                many++;
            }
        }

        /** Goes on with the row begun in `codes` in all ways, in ORDER, and lists those that are the first of their ring. */
        private void listRings(int part, int left, RingList list) {
            if (left == 0) {
                if (isFirstTurn()) {
                    enlist(list);
                }
                return;
            }
            // No THING of the first turn comes ahead of its first one.
            int least = many == 0 ? 0 : codes[0];
            for (int size = Math.max(1, least / RANKS); size <= left; size++) {
                if (census.rowsLeft(part, grammar.value[part] - many - 1, left - size) > 0) {
                    listRingsBy(part, size, size == least / RANKS ? least % RANKS : 0, left, list);
                }
            }
        }

        /** Goes on by each THING of one size, from a RANK on. */
        private void listRingsBy(int part, int size, int from, int left, RingList list) {
            int place = many;
            if (place >= SIZES) {
                return;
            }
            long end = Math.min(RANKS, census.of(inside, size));
            for (int rank = from; rank < end; rank++) {
                codes[place] = size * RANKS + rank;
                many = place + 1;
                listRings(part, left - size, list);
                many = place;
            }
        }

        private boolean isFirstTurn() {
            for (int turn = 1; turn < many; turn++) {
                if (compareTurn(turn) < 0) {
                    return false;
                }
            }
            return true;
        }

        /** Compares what begins at a place of the ring with what begins at its first one. */
        private int compareTurn(int turn) {
            for (int i = 0; i < many; i++) {
                int there = codes[(turn + i) % many];
                if (there != codes[i]) {
                    return there - codes[i];
                }
            }
            return 0;
        }

        private void enlist(RingList list) {
            if (list.many >= LISTED_MOST) {
                return;
            }
            int base = list.many * SIZES;
            for (int i = 0; i < SIZES; i++) {
                list.codes[base + i] = i < many ? codes[i] : 0;
            }
            list.many++;
        }

        int turnsAlike() {
            int alike = 1;
            for (int turn = 1; turn < many; turn++) {
                if (compareTurn(turn) == 0) {
                    alike++;
                }
            }
            return alike;
        }

        /** Like THINGS of a bag stand side by side, as it goes from the greatest to the least. */
        int changesAlike() {
            int ways = 1;
            int run = 1;
            for (int i = 1; i < many; i++) {
                run = codes[i] == codes[i - 1] ? run + 1 : 1;
                ways *= run;
            }
            return ways;
        }
    }

    /** Spells a THING, and tells what can be seen in passing. */
    private static final class Speller {
        private static final int WAITING_MOST = 1100;
        private static final int MOVES_MOST = 1_000_000;
        private static final int TEXT_MOST = 1 << 20;

        private final Grammar grammar;
        private final Census census;
        private final Sequences sequences;
        byte[] text = new byte[256];
        int signs = 0;
        int depth = 0;
        int turns = 1;
        int topTerm = 0;
        int weight = 0;
        final int[] atomCounts = new int[LETTERS];
        private int open = 0;
        /** What is still to be spelled, the next one last: PARTS with size and RANK, or signs, below 0. */
        private final int[] waiting = new int[WAITING_MOST];
        private int top = 0;
        private int nowStamp = NONE;
        private int nowThing = NONE;

        Speller(Grammar of, Census by, Sequences in) {
            grammar = of;
            census = by;
            sequences = in;
        }

        static int weightOf(int sign) {
            return sign * sign * sign;
        }

        int signAt(int i) {
            return i >= 0 && i < signs && i < text.length ? text[i] : NONE;
        }

        void spell(int kind, int n, int rank, int stamp) {
            int thing = (kind * SIZES + n) * RANKS + rank;
            if (stamp == nowStamp && thing == nowThing) {
                return;
            }
            nowStamp = stamp;
            nowThing = thing;
            signs = 0;
            depth = 0;
            turns = 1;
            weight = 0;
            open = 0;
            top = 0;
            Arrays.fill(atomCounts, 0);
            topTerm = spellExpr(kind, n, rank);
            for (int i = 0; i < MOVES_MOST && top > 0; i++) {
                top--;
                int item = waiting[top];
                if (item < 0) {
                    open--;
                    put(-item);
                } else {
                    spellPart(item / RANKS / SIZES, item / RANKS % SIZES, item % RANKS);
                }
            }
        }

        private void put(int sign) {
            if (signs >= text.length && text.length < TEXT_MOST) {
                text = Arrays.copyOf(text, 2 * text.length);
            }
            if (signs < text.length) {
                text[signs] = (byte) sign;
                signs++;
                weight += weightOf(sign);
            }
        }

        private void push(int item) {
            if (top < WAITING_MOST) {
                waiting[top] = item;
                top++;
            }
        }

        /** Its TERM. */
        private int spellExpr(int expr, int n, int rank) {
            long number = rank;
            int term = 0;
            while (term < grammar.termCount[expr] - 1 && number >= census.byTerm(expr, term, n)) {
                number -= census.byTerm(expr, term, n);
                term++;
            }
            if (grammar.termCount[expr] > 1) {
                put('0' + term);
            }
            pushTerm(grammar.start(expr, term), n, number);
            return term;
        }

        private void pushTerm(int first, int n, long rank) {
            int parts = 0;
            for (int part = first; part != NONE && parts < PARTS_MOST; part = grammar.next[part]) {
                parts++;
            }
            if (top + parts > WAITING_MOST) {
                return;
            }
            int left = n;
            long number = rank;
            int part = first;
            for (int i = parts - 1; i >= 0 && part != NONE; i--) {
                int next = grammar.next[part];
                int size = 0;
                long behind = census.from(next, left);
                while (size < left && number >= times(census.of(part, size), behind)) {
                    number -= times(census.of(part, size), behind);
                    size++;
                    behind = census.from(next, left - size);
                }
                long here = behind < 1 ? 0 : number / behind;
                waiting[top + i] = (part * SIZES + size) * RANKS + (int) Math.min(here, RANKS - 1);
                number = behind < 1 ? 0 : number % behind;
                left -= size;
                part = next;
            }
            top += parts;
        }

        private void spellPart(int part, int n, int rank) {
            switch (grammar.type[part]) {
                case ATOM:
                    atomCounts[grammar.value[part]]++;
                    put('a' + grammar.value[part]);
                    break;
                case UNIT:
                    put('-');
                    break;
                case ROW:
                    sequences.findRow(part, n, rank);
                    spellSequence(part);
                    break;
                case BAG:
                    sequences.findBag(part, n, rank);
                    turns *= sequences.changesAlike();
                    spellSequence(part);
                    break;
                case SET:
                    sequences.findBag(part, n, rank);
                    spellSequence(part);
                    break;
                case RING:
                    sequences.findRing(part, n, rank, nowStamp);
                    turns *= sequences.turnsAlike();
                    spellSequence(part);
                    break;
                default:
                    spellExpr(grammar.exprOf(part), n, rank);
            }
        }

        private void spellSequence(int part) {
            open++;
            depth = Math.max(depth, open);
            put(openSign(grammar.type[part]));
            push(-closeSign(grammar.type[part]));
            for (int i = sequences.many - 1; i >= 0; i--) {
                int code = sequences.codes[i];
                push((grammar.inside[part] * SIZES + code / RANKS) * RANKS + code % RANKS);
            }
        }
    }

    private static int openSign(int type) {
        return type == ROW ? '[' : type == BAG ? '{' : type == SET ? '<' : '(';
    }

    private static int closeSign(int type) {
        return type == ROW ? ']' : type == BAG ? '}' : type == SET ? '>' : ')';
    }

    /** Reads a THING that is spelled, and puts what has no order, no beginning into an order of its own. */
    private static final class ThingReader {
        private static final int MOVES_MOST = 100_000;

        private final Grammar grammar;
        final byte[] text = new byte[SPELLED_MOST];
        private final byte[] moved = new byte[SPELLED_MOST];
        private int length = 0;
        private int at = 0;
        private int size = 0;
        private boolean fine = true;
        /** PARTS still to be read, the next one last; below 0 those in the midst of which it is. */
        private final int[] waiting = new int[SPELLED_MOST];
        private int top = 0;
        private final int[] starts = new int[SPELLED_MOST + 1];
        private int startCount = 0;
        private final int[] opened = new int[SPELLED_MOST];
        private int openCount = 0;

        ThingReader(Grammar of) {
            grammar = of;
        }

        /** The size of the THING; NONE if the signs are none of an EXPR. */
        int read(int expr, byte[] from, int signs) {
            if (signs < 1 || signs > SPELLED_MOST || signs > from.length) {
                return NONE;
            }
            System.arraycopy(from, 0, text, 0, signs);
            length = signs;
            at = 0;
            size = 0;
            fine = true;
            top = 0;
            startCount = 0;
            openCount = 0;
            readExpr(expr);
            for (int i = 0; i < MOVES_MOST && fine && top > 0; i++) {
                top--;
                int item = waiting[top];
                if (item < 0) {
                    goOn(-item - 1);
                } else {
                    readPart(item);
                }
            }
            return fine && top == 0 && at == length ? size : NONE;
        }

        boolean holds(byte[] other, int signs) {
            for (int i = 0; i < signs && i < SPELLED_MOST && i < other.length; i++) {
                if (text[i] != other[i]) {
                    return false;
                }
            }
            return true;
        }

        private int peek() {
            return at < length ? text[at] : 0;
        }

        private void take(int sign) {
            if (peek() == sign) {
                at++;
            } else {
                fine = false;
            }
        }

        /** All that waits has a sign of its own at least: more than signs are left can't be. */
        private boolean mayAwait(int many) {
            if (top + many > length - at) {
                fine = false;
            }
            return fine;
        }

        private void readExpr(int expr) {
            int term = 0;
            if (grammar.termCount[expr] > 1) {
                term = peek() - '0';
                at++;
            }
            if (term < 0 || term >= grammar.termCount[expr] || grammar.isOff(expr, term)) {
                fine = false;
                return;
            }
            int parts = 0;
            for (int part = grammar.start(expr, term); part != NONE && parts < PARTS_MOST; part = grammar.next[part]) {
                parts++;
            }
            if (!mayAwait(parts)) {
                return;
            }
            int part = grammar.start(expr, term);
            for (int i = parts - 1; i >= 0 && part != NONE; i--) {
                waiting[top + i] = part;
                part = grammar.next[part];
            }
            top += parts;
        }

        private void readPart(int part) {
            int type = grammar.type[part];
            if (type == ATOM) {
                take('a' + grammar.value[part]);
                size++;
                fine = fine && size <= grammar.most;
            } else if (type == UNIT) {
                take('-');
            } else if (type == NAME || type == GROUP) {
                readExpr(grammar.exprOf(part));
            } else {
                take(openSign(type));
                if (fine && mayAwait(1)) {
                    waiting[top] = -part - 1;
                    top++;
                    opened[openCount] = startCount;
                    openCount++;
                }
            }
        }

        /** Behind the opening sign of a sequence, or behind one of its THINGS. */
        private void goOn(int part) {
            if (peek() == closeSign(grammar.type[part])) {
                close(part);
                at++;
            } else if (mayAwait(2)) {
                starts[startCount] = at;
                startCount++;
                waiting[top] = -part - 1;
                waiting[top + 1] = grammar.inside[part];
                top += 2;
            }
        }

        private void close(int part) {
            openCount--;
            int base = opened[openCount];
            int many = startCount - base;
            int told = grammar.value[part];
            int type = grammar.type[part];
            starts[startCount] = at;
            startCount = base;
            if (told > 0 && many != told || type == RING && many < 1) {
                fine = false;
            } else if (type == BAG || type == SET) {
                sort(base, many, type == SET);
            } else if (type == RING) {
                turn(base, many);
            }
        }

        /** Compares the THINGS that begin at two of the starts. */
        private int compare(int one, int other) {
            int a = starts[one];
            int b = starts[other];
            while (a < starts[one + 1] && b < starts[other + 1]) {
                if (text[a] != text[b]) {
                    return text[a] - text[b];
                }
                a++;
                b++;
            }
            return starts[one + 1] - a - (starts[other + 1] - b);
        }

        private void sort(int base, int many, boolean unlike) {
            int to = starts[base];
            for (int place = 0; place < many && fine; place++) {
                for (int i = base; i < base + many; i++) {
                    if (placeOf(i, base, many, unlike) == place) {
                        int signs = starts[i + 1] - starts[i];
                        System.arraycopy(text, starts[i], moved, to, signs);
                        to += signs;
                    }
                }
            }
            copyBack(base, many);
        }

        /** How many come ahead of one in order, like ones as they stand. */
        private int placeOf(int one, int base, int many, boolean unlike) {
            int place = 0;
            for (int i = base; i < base + many; i++) {
                int order = i == one ? 1 : compare(i, one);
                if (order == 0 && unlike) {
                    fine = false;
                }
                if (order < 0 || order == 0 && i < one) {
                    place++;
                }
            }
            return place;
        }

        private void copyBack(int base, int many) {
            int from = starts[base];
            int signs = starts[base + many] - from;
            if (fine && signs > 0) {
                System.arraycopy(moved, from, text, from, signs);
            }
        }

        private void turn(int base, int many) {
            int from = starts[base];
            int signs = starts[base + many] - from;
            int best = 0;
            for (int i = 1; i < many; i++) {
                int shift = starts[base + i] - from;
                best = compareTurns(from, signs, shift, best) < 0 ? shift : best;
            }
            for (int i = 0; i < signs; i++) {
                moved[from + i] = text[from + (best + i) % signs];
            }
            copyBack(base, many);
        }

        private int compareTurns(int from, int signs, int one, int other) {
            for (int i = 0; i < signs; i++) {
                int a = text[from + (one + i) % signs];
                int b = text[from + (other + i) % signs];
                if (a != b) {
                    return a - b;
                }
            }
            return 0;
        }
    }

    /** Which THING of a KIND and size has most of something, and how many atoms all have. */
    private static final class Roll {
        private final Speller speller;
        /** KINDS and sizes whose THINGS have been called up, as bits. */
        private long called = 0;
        final int[] deepestRank = new int[KIND_CELLS];
        final int[] stiffestRank = new int[KIND_CELLS];
        final int[] fullestRank = new int[KIND_CELLS * LETTERS];
        final int[] atomSums = new int[KIND_CELLS * LETTERS];
        private int mostDeep = NONE;
        private int mostStiff = NONE;
        private final int[] mostAtoms = new int[LETTERS];

        Roll(Speller by) {
            speller = by;
        }

        void forget() {
            called = 0;
        }

        boolean has(int which) {
            return (called >> which & 1) != 0;
        }

        void begin(int which) {
            called |= 1L << which;
            mostDeep = NONE;
            mostStiff = NONE;
            Arrays.fill(mostAtoms, NONE);
            Arrays.fill(atomSums, which * LETTERS, which * LETTERS + LETTERS, 0);
        }

        /** The THING that has just been spelled. */
        void note(int which, int rank) {
            if (speller.depth > mostDeep) {
                mostDeep = speller.depth;
                deepestRank[which] = rank;
            }
            if (speller.turns > mostStiff) {
                mostStiff = speller.turns;
                stiffestRank[which] = rank;
            }
            countAtoms(which * LETTERS, rank);
        }

        private void countAtoms(int base, int rank) {
            for (int letter = 0; letter < LETTERS; letter++) {
                int atoms = speller.atomCounts[letter];
                atomSums[base + letter] += atoms;
                if (atoms > mostAtoms[letter]) {
                    mostAtoms[letter] = atoms;
                    fullestRank[base + letter] = rank;
                }
            }
        }
    }

    /** Numbers of a BOX, drawn by a word or dealt each once. */
    private static final class Dealer {
        private final Census census;
        int leftOver = 0;
        private int kind = 0;
        private int low = 0;
        private int many = 0;
        private int mask = 0;
        private int place = 0;

        Dealer(Census by) {
            census = by;
        }

        static int bitsFor(long many) {
            int bits = 0;
            while (bits < WORD_BITS && 1L << bits < many) {
                bits++;
            }
            return bits;
        }

        static int draw(int many, int word) {
            int bits = bitsFor(many);
            if (bits == 0) {
                return 0;
            }
            for (int group = 0; group < WORD_BITS / bits; group++) {
                int number = word >> group * bits & (1 << bits) - 1;
                if (number < many) {
                    return number;
                }
            }
            return NONE;
        }

        void stop() {
            leftOver = 0;
        }

        void begin(int ofKind, int fromSize, int things, int seed) {
            kind = ofKind;
            low = fromSize;
            many = things;
            leftOver = things;
            mask = (1 << bitsFor(things)) - 1;
            place = seed & mask;
        }

        int next() {
            if (leftOver == 0) {
                return NONE;
            }
            // Among as many steps as there are numbers each comes once, so one of the BOX is met.
            for (int i = 0; i < mask && place >= many; i++) {
                advance();
            }
            int number = place;
            advance();
            leftOver--;
            return 10_000 * census.sizeAt(kind, low, number) + census.rankAt(kind, low, number);
        }

        private void advance() {
            place = 5 * place + 3 & mask;
        }
    }
}

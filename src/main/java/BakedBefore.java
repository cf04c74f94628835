/**
 * An oven that keeps the taste of its loaves, the loaves that take and leave tastes, the kilns that
 * tell how much, and what can be asked of them all. The document is ../shared/DOC.md; the words in
 * the comments here are its words.
 */
public final class BakedBefore {
    public static final int NONE = -1, BAD = -2, STATE = -3, FULL = -4;
    public static final long NO = Long.MIN_VALUE;

    private static final int NOTHING = -11, CAST = -12, PLACE = -13, SIZE = -14;
    private static final int ABSENT = -5;
    private static final int FAR_NONE = -100001, FAR_BAD = -100002, FAR_STATE = -100003;

    private static final int TASTES = 4, MOST_LOAVES = 6, MOST_KILNS = 6, MOST_HELD = 9999, MOST_HOUR = 9999;

    private static final int LOAF = 0, CLEAN = 1, GREEDY = 2, HOLY = 3, RYE = 4, POISONED = 5, SHY = 6;
    private static final int[] ABOVE = {-1, LOAF, LOAF, LOAF, CLEAN, GREEDY, HOLY};

    private static final int TAKE = 0, MORE = 1, COLD = 2, FEE = 3;

    private final Stand now = new Stand();
    private final Stand kept = new Stand();
    private final Reader reader = new Reader();
    private final Kiln[] kilns = new Kiln[MOST_KILNS];
    private final Kiln blank = new Kiln();
    private final Baker baker = new Baker(blank);
    private final Asker asker = new Asker(now, baker);
    private final Search search = new Search(now, baker);
    private final Acts acts = new Acts();
    private final Tapes tapes = new Tapes();
    private int kilnCount;
    private boolean imaged;

    public BakedBefore() {
        for (int i = 0; i < MOST_KILNS; i++) {
            kilns[i] = new Kiln();
        }
    }

    // ---- loaves, ovens

    public int loaf(int kind, int v) {
        if (kind < LOAF || kind > SHY) {
            return NONE;
        }
        if (v < 0 || v > 9) {
            return BAD;
        }
        if (now.many >= MOST_LOAVES) {
            return FULL;
        }
        now.loaves[now.many].begin(kind, v);
        now.many++;
        return now.many - 1;
    }

    public int set(int loaf, int taste, int what, int n) {
        if (!isLoaf(loaf) || !isTaste(taste) || what < 0 || what > 1) {
            return NONE;
        }
        if (n < 0 || n > 99) {
            return BAD;
        }
        int[] row = what == 0 ? now.loaves[loaf].gives : now.loaves[loaf].bears;
        int was = row[taste];
        row[taste] = n;
        return was;
    }

    public int of(int loaf, int what) {
        if (!isLoaf(loaf) || what < 0) {
            return NONE;
        }
        Loaf one = now.loaves[loaf];
        switch (what) {
            case 0:
                return one.kind;
            case 1:
                return one.v;
            case 2:
                return baker.feeOf(one, now.oven.hour);
            case 3:
                return flag(baker.spoils(one, now.oven));
            default:
                return ofTaste(one, what / 10, what % 10);
        }
    }

    private int ofTaste(Loaf one, int what, int taste) {
        if (!isTaste(taste)) {
            return NONE;
        }
        switch (what) {
            case 1:
                return one.gives[taste];
            case 2:
                return one.bears[taste];
            case 3:
                return baker.takes(one, taste, now.oven);
            case 4:
                return baker.leaves(one, taste, now.oven);
            default:
                return NONE;
        }
    }

    public int oven(int taste, int n) {
        if (!isTaste(taste)) {
            return NONE;
        }
        if (n < 0 || n > MOST_HELD) {
            return BAD;
        }
        int was = now.oven.held[taste];
        now.oven.held[taste] = n;
        return was;
    }

    public int feed(int sign) {
        if (sign < 0 || sign > 127) {
            return BAD;
        }
        return reader.append(sign);
    }

    public int kiln() {
        if (kilnCount >= MOST_KILNS) {
            return FULL;
        }
        int fault = reader.readInto(kilns[kilnCount]);
        if (fault >= 0) {
            return -10 - fault;
        }
        now.holding = kilnCount;
        baker.kiln = kilns[kilnCount];
        kilnCount++;
        return now.holding;
    }

    public int told(int what) {
        if (isTaste(what)) {
            return now.oven.held[what];
        }
        if (what == 4) {
            return now.oven.hour;
        }
        return what == 5 ? baker.kiln.coldPart : NONE;
    }

    // ---- baking

    public int bake(int loaf) {
        if (!isLoaf(loaf)) {
            return NONE;
        }
        return flag(baker.bakeIn(now.oven, now.loaves[loaf]));
    }

    public int cold() {
        baker.chill(now.oven);
        return now.oven.hour;
    }

    public int would(int loaf, int other, int what) {
        if (!isLoaf(loaf) || (other != NONE && !isLoaf(other)) || what < 0 || what > TASTES) {
            return NONE;
        }
        if (loaf == other) {
            return BAD;
        }
        return asker.behind(loaf, other, what);
    }

    public int order(int set, int k) {
        if (k < -1 || k > 5) {
            return NONE;
        }
        if (!isSet(set, 5)) {
            return BAD;
        }
        search.seekOrder(set);
        if (k == -1) {
            return search.fewest;
        }
        return k < search.length ? search.best[k] : ABSENT;
    }

    public int colds(int set, int k) {
        if (k < -1 || k > 5) {
            return NONE;
        }
        if (!isSet(set, 4)) {
            return BAD;
        }
        if (!search.seekColds(set)) {
            return ABSENT;
        }
        if (k == -1) {
            return search.fewest;
        }
        return k < search.length ? search.best[k] : ABSENT;
    }

    public int place(int loaf, int what) {
        if (!isLoaf(loaf) || what < 0 || what > 1) {
            return NONE;
        }
        return asker.bestPlace(loaf, what == 1);
    }

    public int guilty(int loaf) {
        if (!isLoaf(loaf)) {
            return NONE;
        }
        return asker.guiltyOf(loaf);
    }

    public int two(int what) {
        if (what < 0 || what > 1) {
            return NONE;
        }
        return asker.bestParting(what == 1);
    }

    // ---- fees, changes

    public int has(int loaf) {
        if (!isLoaf(loaf)) {
            return FAR_NONE;
        }
        return asker.purse(loaf);
    }

    public int swaps(int loaf) {
        if (!isLoaf(loaf) || !isLoaf(loaf + 1)) {
            return NONE;
        }
        return flag(asker.bothAgree(loaf));
    }

    public int span(int loaf, int taste, int took, int what) {
        if (!isLoaf(loaf) || !isTaste(taste) || what < 0 || what > 1) {
            return NONE;
        }
        if (took < 0 || took > MOST_HELD) {
            return BAD;
        }
        return asker.heldBy(now.loaves[loaf], taste, took, what == 1);
    }

    public int year(int n, int f, int what) {
        if (what < 0 || what > TASTES) {
            return FAR_NONE;
        }
        if (n < 0 || n > 60 || f < 2 || f > 30) {
            return FAR_BAD;
        }
        if (now.many == 0) {
            return FAR_STATE;
        }
        return asker.afterYear(n, f, what);
    }

    // ---- odds, books

    public long odds(int loaf, int part) {
        if (!isLoaf(loaf) || now.many < 2 || part < 0 || part > 1) {
            return NO;
        }
        return lowest(asker.spoilers(loaf), now.many - 1, part);
    }

    public long mean(int taste, int part) {
        if (!isTaste(taste) || now.many == 0 || part < 0 || part > 1) {
            return NO;
        }
        return lowest(asker.takenByAll(taste), now.many, part);
    }

    public int book(int loaf, boolean spoiled) {
        if (loaf == NONE) {
            now.book.rows = 0;
            return 0;
        }
        if (loaf != Book.COLD_HOUR && !isLoaf(loaf)) {
            return NONE;
        }
        return now.book.append(loaf, spoiled);
    }

    public int looked() {
        return asker.firstOtherwise();
    }

    // ---- judging, the image, acts, tapes

    public int judge(int tape, int i) {
        if (!Tapes.isTape(tape)) {
            return NONE;
        }
        return tapes.firstUnlike(tape, i, now.oven);
    }

    public int image() {
        kept.become(now);
        imaged = true;
        return kept.many;
    }

    public int undo() {
        if (!imaged) {
            return STATE;
        }
        now.become(kept);
        baker.kiln = now.holding < 0 ? blank : kilns[now.holding];
        return now.many;
    }

    public int act(int loaf, int act, int x) {
        acts.ran = 0;
        if (!isLoaf(loaf) || act < 0 || act > 2) {
            return 0;
        }
        return acts.play(now.loaves[loaf], act, x);
    }

    public int trace(int i) {
        if (i < 0 || i >= acts.ran || i >= Acts.KEPT) {
            return NONE;
        }
        return acts.bodies[i];
    }

    public int taken(int loaf, int k) {
        if (k < LOAF || k > SHY) {
            return BAD;
        }
        if (!isLoaf(loaf)) {
            return NOTHING;
        }
        return now.loaves[loaf].isUnder(k) ? now.loaves[loaf].kind : CAST;
    }

    public int count(int what) {
        switch (what) {
            case 0:
                return now.many;
            case 1:
                return kilnCount;
            case 2:
                return now.book.rows;
            case 3:
                return reader.length;
            case 4:
                return acts.ran;
            default:
                return BAD;
        }
    }

    public int tape(int tape, int sort, int n) {
        if (!Tapes.isTape(tape)) {
            return NONE;
        }
        return tapes.begin(tape, sort, n);
    }

    public int item(int tape, int i, long v) {
        if (!Tapes.isTape(tape)) {
            return NONE;
        }
        return tapes.write(tape, i, v);
    }

    public long read(int tape, int i) {
        if (!Tapes.isTape(tape)) {
            return NO;
        }
        return tapes.valueAt(tape, i);
    }

    public int shift(int tape, int i, int other, int j, int n) {
        if (!Tapes.isTape(tape) || !Tapes.isTape(other)) {
            return NONE;
        }
        return tapes.move(tape, i, other, j, n);
    }

    // ---- what several calls look at

    private boolean isLoaf(int loaf) {
        return loaf >= 0 && loaf < now.many;
    }

    private boolean isSet(int set, int most) {
        return set >= 0 && set < 1 << now.many && Integer.bitCount(set) <= most;
    }

    private static boolean isTaste(int taste) {
        return taste >= 0 && taste < TASTES;
    }

    private static int flag(boolean holds) {
        return holds ? 1 : 0;
    }

    /** One part of the fraction above by below in lowest terms; below is 1 at least. */
    private static long lowest(int above, int below, int part) {
        int common = below;
        // below is a count of LOAVES, so its own number bounds the search for the greatest divisor
        while (common > 1 && (above % common != 0 || below % common != 0)) {
            common--;
        }
        return (part == 0 ? above : below) / common;
    }

    /** A LOAF with all that is its own. */
    private static final class Loaf {
        final int number;
        final int[] gives = new int[TASTES];
        final int[] bears = new int[TASTES];
        int kind;
        int v;

        Loaf(int number) {
            this.number = number;
        }

        void begin(int newKind, int newV) {
            kind = newKind;
            v = newV;
            for (int taste = 0; taste < TASTES; taste++) {
                gives[taste] = 0;
                bears[taste] = 9;
            }
        }

        void become(Loaf other) {
            kind = other.kind;
            v = other.v;
            for (int taste = 0; taste < TASTES; taste++) {
                gives[taste] = other.gives[taste];
                bears[taste] = other.bears[taste];
            }
        }

        boolean isUnder(int k) {
            int up = kind;
            // no KIND has more than two above it
            for (int step = 0; step < 2 && up != k && up != LOAF; step++) {
                up = ABOVE[up];
            }
            return up == k;
        }
    }

    /** THE OVEN, or one thought of to ask what would be. */
    private static final class Oven {
        final int[] held = new int[TASTES];
        int hour;

        void become(Oven other) {
            for (int taste = 0; taste < TASTES; taste++) {
                held[taste] = other.held[taste];
            }
            hour = other.hour;
        }

        void strike() {
            hour = Math.min(MOST_HOUR, hour + 1);
        }
    }

    /** The BOOK told by hand. */
    private static final class Book {
        static final int COLD_HOUR = -2, MOST_ROWS = 12;

        final int[] loaves = new int[MOST_ROWS];
        final boolean[] spoiled = new boolean[MOST_ROWS];
        int rows;

        int append(int loaf, boolean wasSpoiled) {
            if (rows >= MOST_ROWS) {
                return FULL;
            }
            loaves[rows] = loaf;
            spoiled[rows] = wasSpoiled;
            rows++;
            return rows;
        }

        void become(Book other) {
            for (int row = 0; row < other.rows; row++) {
                loaves[row] = other.loaves[row];
                spoiled[row] = other.spoiled[row];
            }
            rows = other.rows;
        }
    }

    /** How all is: just what THE IMAGE keeps, so that an image is another one of these. */
    private static final class Stand {
        final Loaf[] loaves = new Loaf[MOST_LOAVES];
        final Oven oven = new Oven();
        final Book book = new Book();
        int many;
        int holding = NONE;

        Stand() {
            for (int i = 0; i < MOST_LOAVES; i++) {
                loaves[i] = new Loaf(i);
            }
        }

        void become(Stand other) {
            for (int i = 0; i < other.many; i++) {
                loaves[i].become(other.loaves[i]);
            }
            many = other.many;
            oven.become(other.oven);
            book.become(other.book);
            holding = other.holding;
        }
    }

    /**
     * The CLAUSES of a KILN. Each E is kept as a row of steps, operands ahead of their sign, so that
     * whether it holds is told without recursion and without new objects.
     */
    private static final class Kiln {
        static final int MOST_CLAUSES = 10;
        static final int NOT = -1, AND = -2, OR = -3;
        static final int OF_FEE = 99;

        final int[] words = new int[MOST_CLAUSES];
        final int[] numbers = new int[MOST_CLAUSES];
        final int[] ends = new int[MOST_CLAUSES];
        final int[] steps = new int[Reader.LONGEST];
        final int[] letters = new int[6];
        int clauses;
        int stepCount;
        int takeClauses;
        int coldPart = 50;

        void empty() {
            clauses = 0;
            stepCount = 0;
            takeClauses = 0;
            coldPart = 50;
        }

        void begin(int word, int n) {
            if (clauses >= MOST_CLAUSES) {
                return;
            }
            words[clauses] = word;
            numbers[clauses] = n;
            ends[clauses] = stepCount;
            clauses++;
            if (word == TAKE) {
                takeClauses++;
            }
            if (word == COLD) {
                coldPart = n;
            }
        }

        /** A step of the latest clause's E. */
        void append(int step) {
            if (stepCount >= steps.length || clauses < 1) {
                return;
            }
            steps[stepCount] = step;
            stepCount++;
            ends[clauses - 1] = stepCount;
        }

        /** Sets the letters, in the row's order l k t v h o. */
        void lookAt(Loaf loaf, int taste, int tens, int hour) {
            letters[0] = loaf.number;
            letters[1] = loaf.kind;
            letters[2] = taste;
            letters[3] = loaf.v;
            letters[4] = hour % 60;
            letters[5] = tens;
        }

        /** The n of all clauses of a word whose E holds, together. */
        int sum(int word) {
            int sum = 0;
            int from = 0;
            for (int clause = 0; clause < clauses; clause++) {
                if (words[clause] == word && holds(from, ends[clause])) {
                    sum += numbers[clause];
                }
                from = ends[clause];
            }
            return sum;
        }

        private boolean holds(int from, int end) {
            // The operands wait as bits, the latest one lowest: 4 levels of brackets leave under 20.
            long waiting = 0;
            for (int at = from; at < end; at++) {
                int step = steps[at];
                long last = waiting & 1;
                if (step == NOT) {
                    waiting ^= 1;
                } else if (step == AND) {
                    waiting = (waiting >> 1) & (last | ~1L);
                } else if (step == OR) {
                    waiting = (waiting >> 1) | last;
                } else {
                    int value = letters[step >> 9];
                    int number = step & 127;
                    int sign = (step >> 7) & 3;
                    boolean so = sign == 0 ? value < number : sign == 1 ? value == number : value > number;
                    waiting = (waiting << 1) | (so ? 1 : 0);
                }
            }
            return (waiting & 1) == 1;
        }
    }

    /**
     * THE TEXT and how it is read. Each reading step answers whether it went well; if not, the place
     * is left at the byte that can't stand there, which is the FAULT.
     */
    private static final class Reader {
        static final int LONGEST = 100, DEEPEST = 4;

        final int[] text = new int[LONGEST];
        int length;
        private int at;
        private int number;
        private Kiln kiln;

        int append(int sign) {
            if (length >= LONGEST) {
                return FULL;
            }
            text[length] = sign;
            length++;
            return length;
        }

        /** Empties THE TEXT. -1, or the FAULT; the KILN is of use only without one. */
        int readInto(Kiln into) {
            kiln = into;
            kiln.empty();
            at = 0;
            boolean well = readClause();
            for (int clauses = 1; well && at < length; clauses++) {
                well = clauses < Kiln.MOST_CLAUSES && skip(';') && readClause();
            }
            length = 0;
            return well ? -1 : at;
        }

        private boolean readClause() {
            int word = wordFrom(here());
            if (word < 0 || !readWord(spelling(word)) || !skip(' ') || !readNumber()) {
                return false;
            }
            kiln.begin(word, number);
            return word == COLD || (skip(' ') && readEither(0));
        }

        private boolean readWord(String word) {
            for (int i = 0; i < word.length(); i++) {
                if (!skip(word.charAt(i))) {
                    return false;
                }
            }
            return true;
        }

        private boolean readNumber() {
            if (!isDigit(here())) {
                return false;
            }
            number = here() - '0';
            at++;
            if (isDigit(here())) {
                number = number * 10 + here() - '0';
                at++;
            }
            return true;
        }

        /** E, within so many ( and !. */
        private boolean readEither(int depth) {
            if (!readBoth(depth)) {
                return false;
            }
            for (int i = 0; i < LONGEST && skip('|'); i++) {
                if (!readBoth(depth)) {
                    return false;
                }
                kiln.append(Kiln.OR);
            }
            return true;
        }

        /** T. */
        private boolean readBoth(int depth) {
            if (!readPart(depth)) {
                return false;
            }
            for (int i = 0; i < LONGEST && skip('&'); i++) {
                if (!readPart(depth)) {
                    return false;
                }
                kiln.append(Kiln.AND);
            }
            return true;
        }

        /** F. A ( or ! within too many others comes to readTest, which takes neither. */
        private boolean readPart(int depth) {
            int inner = depth;
            while (inner < DEEPEST && skip('!')) {
                inner++;
            }
            boolean bracket = inner < DEEPEST && skip('(');
            boolean well = bracket ? readEither(inner + 1) && skip(')') : readTest();
            for (int i = depth; well && i < inner; i++) {
                kiln.append(Kiln.NOT);
            }
            return well;
        }

        private boolean readTest() {
            int letter = letterOf(here());
            if (letter < 0) {
                return false;
            }
            at++;
            int sign = here() - '<';
            if (sign < 0 || sign > 2) {
                return false;
            }
            at++;
            if (!readNumber()) {
                return false;
            }
            kiln.append((letter << 9) | (sign << 7) | number);
            return true;
        }

        private int here() {
            return at >= 0 && at < length ? text[at] : -1;
        }

        private boolean skip(char sign) {
            if (here() != sign) {
                return false;
            }
            at++;
            return true;
        }

        private static boolean isDigit(int sign) {
            return sign >= '0' && sign <= '9';
        }

        private static int wordFrom(int first) {
            switch (first) {
                case 't':
                    return TAKE;
                case 'm':
                    return MORE;
                case 'c':
                    return COLD;
                case 'f':
                    return FEE;
                default:
                    return NONE;
            }
        }

        private static String spelling(int word) {
            switch (word) {
                case TAKE:
                    return "take";
                case MORE:
                    return "more";
                case COLD:
                    return "cold";
                default:
                    return "fee";
            }
        }

        private static int letterOf(int sign) {
            switch (sign) {
                case 'l':
                    return 0;
                case 'k':
                    return 1;
                case 't':
                    return 2;
                case 'v':
                    return 3;
                case 'h':
                    return 4;
                case 'o':
                    return 5;
                default:
                    return NONE;
            }
        }
    }

    /** What a LOAF TAKES and LEAVES by the KILN that holds, in any oven. */
    private static final class Baker {
        Kiln kiln;

        Baker(Kiln kiln) {
            this.kiln = kiln;
        }

        int partOf(Loaf loaf, int taste, int held, int hour) {
            if (kiln.takeClauses == 0) {
                return 50;
            }
            kiln.lookAt(loaf, taste, held / 10, hour);
            return kiln.sum(TAKE);
        }

        /** What a LOAF TAKES of so much by a PART. */
        static int amount(Loaf loaf, int taste, int part, int held) {
            int plain = part * held / 100;
            int amount = plain;
            switch (loaf.kind) {
                case CLEAN:
                    amount = held;
                    break;
                case GREEDY:
                case POISONED:
                    amount = 2 * plain;
                    break;
                case HOLY:
                    amount = Math.min(plain, loaf.bears[taste]);
                    break;
                case RYE:
                    amount = held - loaf.v;
                    break;
                case SHY:
                    // half of what the HOLY rule says: what THE OVEN holds bounds only the end
                    amount = Math.min(plain, loaf.bears[taste]) / 2;
                    break;
                default:
                    break;
            }
            return Math.max(0, Math.min(amount, held));
        }

        int takes(Loaf loaf, int taste, Oven oven) {
            int held = oven.held[taste];
            return amount(loaf, taste, partOf(loaf, taste, held, oven.hour), held);
        }

        int takesOfAll(Loaf loaf, Oven oven) {
            int sum = 0;
            for (int taste = 0; taste < TASTES; taste++) {
                sum += takes(loaf, taste, oven);
            }
            return sum;
        }

        int leaves(Loaf loaf, int taste, Oven oven) {
            if (loaf.kind == CLEAN || loaf.kind == RYE) {
                return 0;
            }
            kiln.lookAt(loaf, taste, oven.held[taste] / 10, oven.hour);
            int sum = loaf.gives[taste] + kiln.sum(MORE);
            if (loaf.kind == POISONED && taste == 0) {
                sum += loaf.v;
            }
            return loaf.kind == SHY ? sum / 2 : sum;
        }

        boolean spoils(Loaf loaf, Oven oven) {
            for (int taste = 0; taste < TASTES; taste++) {
                if (takes(loaf, taste, oven) > loaf.bears[taste]) {
                    return true;
                }
            }
            return false;
        }

        /** A BAKE; whether it is SPOILED. */
        boolean bakeIn(Oven oven, Loaf loaf) {
            boolean spoiled = false;
            for (int taste = 0; taste < TASTES; taste++) {
                int took = takes(loaf, taste, oven);
                int left = leaves(loaf, taste, oven);
                oven.held[taste] = Math.min(MOST_HELD, oven.held[taste] - took + left);
                spoiled = spoiled || took > loaf.bears[taste];
            }
            oven.strike();
            return spoiled;
        }

        void chill(Oven oven) {
            for (int taste = 0; taste < TASTES; taste++) {
                oven.held[taste] = Math.min(MOST_HELD, oven.held[taste] * kiln.coldPart / 100);
            }
            oven.strike();
        }

        int feeOf(Loaf loaf, int hour) {
            kiln.lookAt(loaf, Kiln.OF_FEE, Kiln.OF_FEE, hour);
            return 1 + kiln.sum(FEE);
        }
    }

    /** What would be, going on from how all is, in an oven thought of. */
    private static final class Asker {
        private static final int BLOCKS = 100;

        private final Stand now;
        private final Baker baker;
        private final Oven trial = new Oven();
        private final int[] spoiledOf = new int[1 << MOST_LOAVES];

        Asker(Stand now, Baker baker) {
            this.now = now;
            this.baker = baker;
        }

        int behind(int loaf, int other, int what) {
            trial.become(now.oven);
            if (other >= 0) {
                baker.bakeIn(trial, now.loaves[other]);
            }
            if (what < TASTES) {
                return baker.takes(now.loaves[loaf], what, trial);
            }
            return flag(baker.spoils(now.loaves[loaf], trial));
        }

        int bestPlace(int loaf, boolean amount) {
            trial.become(now.oven);
            int least = baker.takesOfAll(now.loaves[loaf], trial);
            int place = 0;
            int others = 0;
            for (int i = 0; i < now.many; i++) {
                if (i != loaf) {
                    baker.bakeIn(trial, now.loaves[i]);
                    others++;
                    int sum = baker.takesOfAll(now.loaves[loaf], trial);
                    if (sum < least) {
                        least = sum;
                        place = others;
                    }
                }
            }
            return amount ? least : place;
        }

        int guiltyOf(int loaf) {
            if (!spoilsWithout(loaf, NONE)) {
                return 0;
            }
            int guilty = 0;
            for (int i = 0; i < loaf; i++) {
                if (!spoilsWithout(loaf, i)) {
                    guilty |= 1 << i;
                }
            }
            return guilty;
        }

        private boolean spoilsWithout(int loaf, int left) {
            trial.become(now.oven);
            for (int i = 0; i < loaf; i++) {
                if (i != left) {
                    baker.bakeIn(trial, now.loaves[i]);
                }
            }
            return baker.spoils(now.loaves[loaf], trial);
        }

        int bestParting(boolean askedForSet) {
            int sets = 1 << now.many;
            for (int set = 0; set < sets; set++) {
                spoiledOf[set] = spoiledIn(set);
            }
            int best = 0;
            int fewest = spoiledOf[sets - 1];
            for (int set = 1; set < sets; set++) {
                int spoiled = spoiledOf[set] + spoiledOf[sets - 1 - set];
                if (spoiled < fewest) {
                    fewest = spoiled;
                    best = set;
                }
            }
            return askedForSet ? best : fewest;
        }

        private int spoiledIn(int set) {
            trial.become(now.oven);
            int spoiled = 0;
            for (int i = 0; i < now.many; i++) {
                if ((set >> i & 1) == 1 && baker.bakeIn(trial, now.loaves[i])) {
                    spoiled++;
                }
            }
            return spoiled;
        }

        int purse(int loaf) {
            int sum = 0;
            if (loaf + 1 < now.many) {
                sum += gainOfFirst(loaf);
            }
            if (loaf > 0) {
                sum -= gainOfFirst(loaf - 1);
            }
            return sum;
        }

        /** What the first of two LOAVES gets from the second; below 0 what it pays. */
        private int gainOfFirst(int first) {
            Loaf one = now.loaves[first];
            Loaf next = now.loaves[first + 1];
            trial.become(now.oven);
            baker.bakeIn(trial, one);
            if (baker.takesOfAll(next, trial) < baker.takesOfAll(next, now.oven)) {
                return baker.feeOf(one, now.oven.hour);
            }
            return -baker.feeOf(next, now.oven.hour);
        }

        boolean bothAgree(int first) {
            Loaf one = now.loaves[first];
            Loaf next = now.loaves[first + 1];
            bakeAhead(first);
            int oneAsIs = baker.takesOfAll(one, trial);
            baker.bakeIn(trial, one);
            int nextAsIs = baker.takesOfAll(next, trial);
            bakeAhead(first);
            int nextChanged = baker.takesOfAll(next, trial);
            baker.bakeIn(trial, next);
            int oneChanged = baker.takesOfAll(one, trial);
            return oneChanged <= oneAsIs && nextChanged <= nextAsIs
                && (oneChanged < oneAsIs || nextChanged < nextAsIs);
        }

        private void bakeAhead(int loaf) {
            trial.become(now.oven);
            for (int i = 0; i < loaf; i++) {
                baker.bakeIn(trial, now.loaves[i]);
            }
        }

        /**
         * A number of a TEST has two digits, so a PART changes by tens and no more from 1000 on; in
         * a block of one PART no KIND TAKES less of more. So each block is searched by halves.
         */
        int heldBy(Loaf loaf, int taste, int took, boolean greatest) {
            for (int i = 0; i <= BLOCKS; i++) {
                int block = greatest ? BLOCKS - i : i;
                int low = block * 10;
                int high = block == BLOCKS ? MOST_HELD : low + 9;
                int part = baker.partOf(loaf, taste, low, now.oven.hour);
                int first = reaching(loaf, taste, part, took, low, high);
                if (first <= high && Baker.amount(loaf, taste, part, first) == took) {
                    return greatest ? reaching(loaf, taste, part, took + 1, low, high) - 1 : first;
                }
            }
            return ABSENT;
        }

        /** The least from low to high of which it TAKES so much or more; high and 1: none. */
        private static int reaching(Loaf loaf, int taste, int part, int took, int low, int high) {
            int from = low;
            int end = high + 1;
            while (from < end) {
                int middle = (from + end) / 2;
                if (Baker.amount(loaf, taste, part, middle) >= took) {
                    end = middle;
                } else {
                    from = middle + 1;
                }
            }
            return from;
        }

        int afterYear(int n, int f, int what) {
            trial.become(now.oven);
            int next = 0;
            int spoiled = 0;
            for (int i = 0; i < n; i++) {
                if (trial.hour % f == 0) {
                    baker.chill(trial);
                } else {
                    if (baker.bakeIn(trial, now.loaves[next])) {
                        spoiled++;
                    }
                    next = next + 1 < now.many ? next + 1 : 0;
                }
            }
            return what < TASTES ? trial.held[what] : spoiled;
        }

        int spoilers(int loaf) {
            int spoilers = 0;
            for (int i = 0; i < now.many; i++) {
                if (i != loaf) {
                    spoilers += behind(loaf, i, TASTES);
                }
            }
            return spoilers;
        }

        int takenByAll(int taste) {
            int sum = 0;
            for (int i = 0; i < now.many; i++) {
                sum += baker.takes(now.loaves[i], taste, now.oven);
            }
            return sum;
        }

        int firstOtherwise() {
            trial.become(now.oven);
            for (int row = 0; row < now.book.rows; row++) {
                int loaf = now.book.loaves[row];
                boolean spoiled = false;
                if (loaf == Book.COLD_HOUR) {
                    baker.chill(trial);
                } else {
                    spoiled = baker.bakeIn(trial, now.loaves[loaf]);
                }
                if (spoiled != now.book.spoiled[row]) {
                    return row;
                }
            }
            return ABSENT;
        }
    }

    /**
     * ORDER and COLDS: rows are gone through from the first on, and one is kept only if it is better
     * than all ahead of it, so that of several the first stays.
     */
    private static final class Search {
        private static final int MOST = 5, MOST_COLDS = 4;

        private final Stand now;
        private final Baker baker;
        private final Oven[] ovens = new Oven[MOST + 1];
        private final int[] row = new int[MOST];
        final int[] best = new int[MOST];
        int length;
        int fewest;

        Search(Stand now, Baker baker) {
            this.now = now;
            this.baker = baker;
            for (int i = 0; i < ovens.length; i++) {
                ovens[i] = new Oven();
            }
        }

        void seekOrder(int set) {
            length = Integer.bitCount(set);
            fewest = MOST + 1;
            ovens[0].become(now.oven);
            goOnOrder(this, set, 0, 0);
        }

        private static void goOnOrder(Search search, int left, int depth, int spoiled) {
            if (left == 0) {
                search.keep(spoiled);
                return;
            }
            if (depth >= MOST) {
                return;
            }
            Oven here = search.ovens[depth];
            Oven next = search.ovens[depth + 1];
            for (int i = 0; i < search.now.many && spoiled < search.fewest; i++) {
                if ((left >> i & 1) == 1) {
                    next.become(here);
                    search.row[depth] = i;
                    boolean bad = search.baker.bakeIn(next, search.now.loaves[i]);
                    goOnOrder(search, left & ~(1 << i), depth + 1, bad ? spoiled + 1 : spoiled);
                }
            }
        }

        /** Whether there is a row by which none is SPOILED. */
        boolean seekColds(int set) {
            int most = MOST_COLDS * MOST;
            length = Integer.bitCount(set);
            fewest = most + 1;
            ovens[0].become(now.oven);
            goOnColds(this, set, 0, 0);
            return fewest <= most;
        }

        private static void goOnColds(Search search, int left, int depth, int sum) {
            if (left == 0) {
                search.keep(sum);
                return;
            }
            if (depth >= MOST) {
                return;
            }
            Oven here = search.ovens[depth];
            Oven next = search.ovens[depth + 1];
            int loaf = lowestOf(left);
            for (int colds = 0; colds <= MOST_COLDS && sum + colds < search.fewest; colds++) {
                if (colds > 0) {
                    search.baker.chill(here);
                }
                next.become(here);
                search.row[depth] = colds;
                if (!search.baker.bakeIn(next, search.now.loaves[loaf])) {
                    goOnColds(search, left & ~(1 << loaf), depth + 1, sum + colds);
                }
            }
        }

        private static int lowestOf(int set) {
            int loaf = 0;
            while (loaf < MOST_LOAVES - 1 && (set >> loaf & 1) == 0) {
                loaf++;
            }
            return loaf;
        }

        private void keep(int many) {
            if (many < fewest) {
                fewest = many;
                for (int i = 0; i < length && i < MOST; i++) {
                    best[i] = row[i];
                }
            }
        }
    }

    /** The ACTS of LOAVES and THE TRACE. */
    private static final class Acts {
        static final int KEPT = 20;
        private static final int RISES = 0, BAKES = 1, TELLS = 2, DEEPEST = 40;
        /** By KIND and act; 0 where a KIND has no body of its own. */
        private static final int[] BODIES = {
            10, 11, 12,
            0, 20, 0,
            30, 0, 0,
            0, 0, 40,
            50, 51, 0,
            0, 0, 60,
            71, 70, 0
        };

        final int[] bodies = new int[KEPT];
        int ran;

        int play(Loaf loaf, int act, int x) {
            ran = 0;
            return run(this, loaf, act, loaf.kind, x, 0);
        }

        /** The body that a KIND, or the next above it that has one, has for an act. */
        private static int run(Acts acts, Loaf loaf, int act, int from, int x, int depth) {
            if (depth > DEEPEST) {
                return 0;
            }
            int body = bodyOf(act, from);
            acts.note(body);
            int own = loaf.kind;
            int above = Math.max(LOAF, ABOVE[body / 10 - 1]);
            int next = depth + 1;
            switch (body) {
                case 10:
                    return x + loaf.number;
                case 11:
                    return run(acts, loaf, RISES, own, x, next) - loaf.v;
                case 12:
                    return run(acts, loaf, BAKES, own, x, next) * 2;
                case 20:
                    return run(acts, loaf, BAKES, above, x, next) ^ 6;
                case 30:
                    return run(acts, loaf, RISES, above, x * 3, next);
                case 40:
                    return run(acts, loaf, TELLS, above, x, next) + run(acts, loaf, BAKES, own, 1, next);
                case 50:
                    return -run(acts, loaf, RISES, above, x, next);
                case 51:
                    return run(acts, loaf, BAKES, above, x + 1, next);
                case 60:
                    return run(acts, loaf, TELLS, above, x - loaf.number, next);
                case 70:
                    return run(acts, loaf, BAKES, above, x, next) + run(acts, loaf, RISES, above, 2, next);
                case 71:
                    return run(acts, loaf, RISES, above, x, next) ^ loaf.v;
                default:
                    return 0;
            }
        }

        private static int bodyOf(int act, int from) {
            int kind = from;
            for (int step = 0; step < 2 && kind > LOAF && BODIES[kind * 3 + act] == 0; step++) {
                kind = ABOVE[kind];
            }
            return BODIES[kind * 3 + act];
        }

        private void note(int body) {
            if (ran < KEPT) {
                bodies[ran] = body;
            }
            ran++;
        }
    }

    /** TAPES. A row of any sort is kept as longs that hold only what an item of the sort can. */
    private static final class Tapes {
        private static final int MANY = 6, LONGEST = 60;
        private static final int EMPTY = -1, BYTES = 0, SHORTS = 1, INTS = 2, LONGS = 3, BOOLEANS = 4;

        private final long[][] rows = new long[MANY][LONGEST];
        private final int[] sorts = new int[MANY];
        private final int[] lengths = new int[MANY];

        Tapes() {
            for (int tape = 0; tape < MANY; tape++) {
                sorts[tape] = EMPTY;
            }
        }

        static boolean isTape(int tape) {
            return tape >= 0 && tape < MANY;
        }

        int begin(int tape, int sort, int n) {
            if (sort < EMPTY || sort > BOOLEANS || (sort != EMPTY && n > LONGEST)) {
                return BAD;
            }
            if (sort != EMPTY && n < 0) {
                return SIZE;
            }
            sorts[tape] = sort;
            lengths[tape] = sort == EMPTY ? 0 : n;
            for (int i = 0; i < LONGEST; i++) {
                rows[tape][i] = 0;
            }
            return 1;
        }

        int write(int tape, int i, long v) {
            if (sorts[tape] == EMPTY) {
                return NOTHING;
            }
            if (i < 0 || i >= lengths[tape]) {
                return PLACE;
            }
            rows[tape][i] = asItem(sorts[tape], v);
            return 1;
        }

        private static long asItem(int sort, long v) {
            switch (sort) {
                case BYTES:
                    return (byte) v;
                case SHORTS:
                    return (short) v;
                case INTS:
                    return (int) v;
                case LONGS:
                    return v;
                default:
                    return v != 0 ? 1 : 0;
            }
        }

        long valueAt(int tape, int i) {
            if (sorts[tape] == EMPTY || i < 0 || i >= lengths[tape]) {
                return NO;
            }
            return rows[tape][i];
        }

        int move(int tape, int i, int other, int j, int n) {
            if (sorts[tape] == EMPTY || sorts[other] == EMPTY) {
                return NOTHING;
            }
            if (sorts[tape] != sorts[other]) {
                return CAST;
            }
            // less n, not and n: the sums could wrap
            if (n < 0 || i < 0 || j < 0 || i > lengths[tape] - n || j > lengths[other] - n) {
                return PLACE;
            }
            System.arraycopy(rows[tape], i, rows[other], j, n);
            return n;
        }

        int firstUnlike(int tape, int from, Oven oven) {
            if (sorts[tape] == EMPTY) {
                return 100;
            }
            if (sorts[tape] != SHORTS) {
                return CAST;
            }
            if (from < 0 || from > lengths[tape]) {
                return 100;
            }
            for (int taste = 0; taste < TASTES; taste++) {
                if (from + taste >= lengths[tape]) {
                    return 100 + taste;
                }
                if (rows[tape][from + taste] != oven.held[taste]) {
                    return taste;
                }
            }
            return ABSENT;
        }
    }
}

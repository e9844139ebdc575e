import java.util.Arrays;

/**
 * Acts that call one another, each with a few places for sizes; by each call arcs along which a
 * size becomes less or no more. The document shared/DOC.md says what each method promises.
 *
 * <p>All rows are made with the object and used again: no call makes an object.
 */
public final class ShrinkingCalls {
    public static final int BAD = -1, STATE = -2, FULL = -3, ENDLESS = -4, NONE = -9;

    private static final int ACTS = 4;
    private static final int PLACES = 3;
    private static final int CALLS = 8;

    private static final int KEPT = 1;
    private static final int LESS = 2;

    /** Orders of places, the fewest first, then as rows; to the base of 4, as slow() answers. */
    private static final int[] ORDERS = {0, 1, 2, 3, 9, 13, 6, 14, 7, 11, 57, 45, 54, 30, 39, 27};

    private final TextReader reader;
    private final Book book;
    private final Book draft;
    private final RoundTrip round;
    private final Closure closure;
    private final Mending mending;
    private final Runs runs;
    private final Weights weights;
    private boolean closureFits;

    public ShrinkingCalls() {
        reader = new TextReader();
        book = new Book();
        draft = new Book();
        round = new RoundTrip();
        closure = new Closure();
        mending = new Mending();
        runs = new Runs();
        weights = new Weights();
        closureFits = false;
    }

    // ---- texts

    public int type(long v, int n) {
        if (n < 1 || n > 8) {
            return BAD;
        }
        return reader.take(v, n) ? reader.size : FULL;
    }

    public int clear() {
        return reader.empty();
    }

    public int read() {
        int answer = reader.readInto(draft);
        if (answer >= 0) {
            book.copyFrom(draft);
            round.empty();
            reader.empty();
            forgetWhatFollows();
        }
        return answer;
    }

    public int places(int act) {
        return isAct(act) ? book.placesOf[act] : BAD;
    }

    public int call(int i, int what) {
        if (!book.hasCall(i)) {
            return BAD;
        }
        switch (what) {
            case 0:
                return book.from[i];
            case 1:
                return book.to[i];
            case 2:
                return Arcs.toNumber(book.arcs[i]);
            default:
                return BAD;
        }
    }

    public int arc(int i, int x, int y) {
        return book.hasPair(i, x, y) ? Arcs.at(book.arcs[i], x, y) : BAD;
    }

    public int put(int i, int x, int y, int v) {
        if (!book.hasPair(i, x, y) || v < 0 || v > LESS) {
            return BAD;
        }
        int was = Arcs.at(book.arcs[i], x, y);
        book.arcs[i] = Arcs.with(book.arcs[i], x, y, v);
        forgetWhatFollows();
        return was;
    }

    // ---- graphs

    public int graphs() {
        return isLarge() ? STATE : closure.size;
    }

    public int graph(int k, int what) {
        if (k < 0 || what < 0 || what > 4) {
            return BAD;
        }
        if (isLarge()) {
            return STATE;
        }
        if (k >= closure.size) {
            return BAD;
        }
        int key = closure.keyInOrder(k);
        switch (what) {
            case 0:
                return Keys.from(key);
            case 1:
                return Keys.to(key);
            case 2:
                return Arcs.toNumber(Keys.arcs(key));
            case 3:
                return Keys.isRound(key) ? 1 : 0;
            default:
                return Keys.isBad(key) ? 1 : 0;
        }
    }

    public int together(int one, int other) {
        if (!Arcs.isNumber(one) || !Arcs.isNumber(other)) {
            return BAD;
        }
        return Arcs.toNumber(Arcs.join(Arcs.fromNumber(one), Arcs.fromNumber(other)));
    }

    public int ends(int act) {
        if (act != -1 && !isAct(act)) {
            return BAD;
        }
        if (isLarge()) {
            return STATE;
        }
        int asked = act == -1 ? closure.badActs : closure.badActs & (1 << act);
        return asked == 0 ? 1 : 0;
    }

    public int shortest(int k) {
        if (k < -1) {
            return BAD;
        }
        if (isLarge()) {
            return STATE;
        }
        int length = closure.wayLength(closure.firstBad);
        if (length == 0 || length > 8) {
            return NONE;
        }
        if (k == -1) {
            return length;
        }
        return k < length ? closure.callOnWay(closure.firstBad, k) : BAD;
    }

    // ---- round trips

    public int go(int call) {
        if (!book.hasCall(call)) {
            return BAD;
        }
        if (!round.goesOnBy(book, call)) {
            return STATE;
        }
        return round.take(call) ? round.size : FULL;
    }

    public int anew() {
        return round.empty();
    }

    public int trip(int what) {
        if (what < 0 || what > 2) {
            return BAD;
        }
        if (!round.comesBack(book)) {
            return STATE;
        }
        int arcs = round.arcsOfAll(book);
        switch (what) {
            case 0:
                return Arcs.toNumber(arcs);
            case 1:
                return Arcs.threads(arcs);
            default:
                return Arcs.falls(arcs) ? 1 : 0;
        }
    }

    // ---- orders, mending

    public int slow(int act) {
        if (!isAct(act)) {
            return BAD;
        }
        if (isLarge()) {
            return STATE;
        }
        for (int i = 0; i < ORDERS.length; i++) {
            if (isOrderOf(ORDERS[i], book.placesOf[act]) && closure.fallsBy(ORDERS[i], act)) {
                return ORDERS[i];
            }
        }
        return NONE;
    }

    public int mended(int what) {
        if (what < 0 || what > 1) {
            return BAD;
        }
        if (isLarge()) {
            return STATE;
        }
        int set = mending.leastSet(book);
        return what == 0 ? Integer.bitCount(set) : set;
    }

    public int needed(int k) {
        if (k < -1) {
            return BAD;
        }
        if (isLarge() || closure.badActs != 0 || !mending.findsNeeded(book)) {
            return STATE;
        }
        return k == -1 ? mending.neededSize : mending.neededAt(k);
    }

    // ---- runs

    public int most(int v) {
        if (v < 0 || v > 3) {
            return BAD;
        }
        int was = runs.most;
        runs.most = v;
        return was;
    }

    public int longest(int act, int a, int b, int c) {
        if (!isAct(act)) {
            return BAD;
        }
        int state = runs.stateOf(book, act, a, b, c);
        return state < 0 ? BAD : runs.longestFrom(book, state);
    }

    public int next(int act, int a, int b, int c) {
        if (!isAct(act)) {
            return BAD;
        }
        int state = runs.stateOf(book, act, a, b, c);
        return state < 0 ? BAD : runs.statesAfter(book, state);
    }

    public int weight(int kind, int i) {
        if (!book.hasCall(i)) {
            return BAD;
        }
        switch (kind) {
            case 0:
                return weights.ofCall(book, i);
            case 1:
                return weights.ofSelf(book, i);
            case 2:
                return weights.ofOther(book, i);
            case 3:
                return weights.ofPlain(book, i);
            case 4:
                return weights.ofFar(book, i);
            default:
                return BAD;
        }
    }

    public int count(int what) {
        switch (what) {
            case 0:
                return book.size;
            case 1:
                return book.placesOfAll();
            case 2:
                return round.size;
            case 3:
                return book.arcsOfAll();
            case 4:
                return reader.size;
            case 5:
                return runs.most;
            default:
                return BAD;
        }
    }

    public long trace() {
        return weights.asked;
    }

    // ---- what several of them share

    private static boolean isAct(int act) {
        return act >= 0 && act < ACTS;
    }

    private static boolean isOrderOf(int order, int places) {
        for (int i = 0; i < PLACES; i++) {
            if (((order >> 2 * i) & 3) > places) {
                return false;
            }
        }
        return true;
    }

    private void forgetWhatFollows() {
        closureFits = false;
        mending.forget();
    }

    /** Most calls ask for the graphs; they are made only where the calls have changed since. */
    private boolean isLarge() {
        if (!closureFits) {
            closure.grow(book, 0, false);
            closureFits = true;
        }
        return closure.large;
    }

    /**
     * The arcs of a graph in one int: two bits for each X, Y at 2 (3 X + Y), 0 none, 1 KEPT, 2 LESS.
     * As ints they stand in the same order as the document's numbers to the base of 3.
     */
    private static final class Arcs {
        static final int NUMBERS = 19683;
        static final int PAIRS = PLACES * PLACES;
        static final int ROW = 63;
        /** The low bit of each of a row's three arcs. */
        static final int LOW_BITS = 21;
        /** The bits of LESS from a place to itself. */
        static final int LESS_TO_ITSELF = (1 << 1) | (1 << 9) | (1 << 17);

        static boolean isNumber(int number) {
            return number >= 0 && number < NUMBERS;
        }

        static int at(int arcs, int x, int y) {
            return (arcs >> 2 * (PLACES * x + y)) & 3;
        }

        static int with(int arcs, int x, int y, int v) {
            int shift = 2 * (PLACES * x + y);
            return (arcs & ~(3 << shift)) | (v << shift);
        }

        static int row(int arcs, int x) {
            return (arcs >> 2 * PLACES * x) & ROW;
        }

        static int toNumber(int arcs) {
            int number = 0;
            for (int i = PAIRS - 1; i >= 0; i--) {
                number = 3 * number + ((arcs >> 2 * i) & 3);
            }
            return number;
        }

        static int fromNumber(int number) {
            int arcs = 0;
            int rest = number;
            for (int i = 0; i < PAIRS; i++) {
                arcs |= (rest % 3) << 2 * i;
                rest /= 3;
            }
            return arcs;
        }

        /** The arcs on from one place, whose arcs are the row, by way of another graph. */
        static int joinRow(int row, int other) {
            int all = 0;
            for (int y = 0; y < PLACES; y++) {
                int step = (row >> 2 * y) & 3;
                int on = (other >> 2 * PLACES * y) & ROW;
                if (step == KEPT) {
                    all |= on;
                } else if (step == LESS) {
                    all |= ((on | (on >> 1)) & LOW_BITS) << 1;
                }
            }
            // an arc that was found both KEPT and LESS has both bits: LESS counts
            return all & ~((all >> 1) & LOW_BITS);
        }

        static int join(int one, int other) {
            int all = 0;
            for (int x = 0; x < PLACES; x++) {
                all |= joinRow(row(one, x), other) << 2 * PLACES * x;
            }
            return all;
        }

        static boolean hasLessToItself(int arcs) {
            return (arcs & LESS_TO_ITSELF) != 0;
        }

        static int howMany(int arcs, int least) {
            int n = 0;
            for (int i = 0; i < PAIRS; i++) {
                if (((arcs >> 2 * i) & 3) >= least) {
                    n++;
                }
            }
            return n;
        }

        static int howManyToThemselves(int arcs) {
            int n = 0;
            for (int x = 0; x < PLACES; x++) {
                if (at(arcs, x, x) != 0) {
                    n++;
                }
            }
            return n;
        }

        /** Each round drops the places that lead to dropped ones alone: three rounds drop all that end. */
        static int threads(int arcs) {
            int alive = (1 << PLACES) - 1;
            for (int round = 0; round < PLACES; round++) {
                int still = 0;
                for (int x = 0; x < PLACES; x++) {
                    if (leadsTo(arcs, x, alive)) {
                        still |= 1 << x;
                    }
                }
                alive = still;
            }
            return alive;
        }

        private static boolean leadsTo(int arcs, int x, int places) {
            for (int y = 0; y < PLACES; y++) {
                if (at(arcs, x, y) != 0 && ((places >> y) & 1) != 0) {
                    return true;
                }
            }
            return false;
        }

        /** A LESS that can be met again is on a round of at most three arcs, as there are three places. */
        static boolean falls(int arcs) {
            int twice = join(arcs, arcs);
            return hasLessToItself(arcs) || hasLessToItself(twice) || hasLessToItself(join(twice, arcs));
        }
    }

    /** A graph with its two acts in one int, so that ints stand in the document's order of graphs. */
    private static final class Keys {
        static final int TO = 18;
        static final int FROM = 20;
        static final int ARCS = (1 << TO) - 1;

        static int of(int from, int to, int arcs) {
            return (from << FROM) | (to << TO) | arcs;
        }

        static int from(int key) {
            return (key >> FROM) & 3;
        }

        static int to(int key) {
            return (key >> TO) & 3;
        }

        static int arcs(int key) {
            return key & ARCS;
        }

        static boolean isRound(int key) {
            int arcs = key & ARCS;
            return from(key) == to(key) && Arcs.join(arcs, arcs) == arcs;
        }

        static boolean isBad(int key) {
            int arcs = key & ARCS;
            return from(key) == to(key) && !Arcs.hasLessToItself(arcs) && Arcs.join(arcs, arcs) == arcs;
        }
    }

    /** The acts' places, and the calls with their arcs. */
    private static final class Book {
        final int[] placesOf = new int[ACTS];
        final int[] from = new int[CALLS];
        final int[] to = new int[CALLS];
        final int[] arcs = new int[CALLS];
        int size;

        void wipe() {
            Arrays.fill(placesOf, 0);
            size = 0;
        }

        void copyFrom(Book other) {
            System.arraycopy(other.placesOf, 0, placesOf, 0, ACTS);
            System.arraycopy(other.from, 0, from, 0, CALLS);
            System.arraycopy(other.to, 0, to, 0, CALLS);
            System.arraycopy(other.arcs, 0, arcs, 0, CALLS);
            size = other.size;
        }

        boolean hasCall(int i) {
            return i >= 0 && i < size;
        }

        boolean hasPair(int i, int x, int y) {
            return hasCall(i) && x >= 0 && x < placesOf[from[i]] && y >= 0 && y < placesOf[to[i]];
        }

        void add(int fromAct, int toAct) {
            if (size < CALLS) {
                from[size] = fromAct;
                to[size] = toAct;
                arcs[size] = 0;
                size++;
            }
        }

        int placesOfAll() {
            int n = 0;
            for (int act = 0; act < ACTS; act++) {
                n += placesOf[act];
            }
            return n;
        }

        int arcsOfAll() {
            int n = 0;
            for (int i = 0; i < size; i++) {
                n += Arcs.howMany(arcs[i], KEPT);
            }
            return n;
        }
    }

    /** The text, and how it is read token by token. */
    private static final class TextReader {
        static final int BYTES = 300;

        static final int UNKNOWN = 0;
        static final int END_OF_TEXT = 1;
        static final int WORD_ACT = 2;
        static final int WORD_CALL = 3;
        static final int ACT = 4;
        static final int NUMBER = 5;
        static final int IS_LESS = 6;
        static final int IS_KEPT = 7;
        static final int END_OF_ITEM = 8;

        final int[] bytes = new int[BYTES];
        int size;

        /** The token that is looked at: where it begins, what it is, its act or number; then what is behind it. */
        private int start;
        private int token;
        private int value;
        private int behind;

        private int toldActs;
        private int fault;

        boolean take(long v, int n) {
            if (n < 0 || size + n > BYTES) {
                return false;
            }
            for (int i = n - 1; i >= 0; i--) {
                bytes[size] = (int) ((v >>> 8 * i) & 255);
                size++;
            }
            return true;
        }

        int empty() {
            int had = size;
            size = 0;
            return had;
        }

        /** How many items, or -10 less the fault's place; what the book holds after a fault is of no use. */
        int readInto(Book book) {
            book.wipe();
            toldActs = 0;
            fault = -1;
            behind = 0;
            advance();
            int items = 0;
            for (; items < BYTES && token != END_OF_TEXT && fault < 0; items++) {
                if (token == WORD_ACT && book.size == 0) {
                    readAct(book);
                } else if (token == WORD_CALL && book.size < CALLS) {
                    readCall(book);
                } else {
                    fault = start;
                }
            }
            return fault < 0 ? items : -10 - fault;
        }

        private void readAct(Book book) {
            advance();
            int act = value;
            if (!stands(token == ACT && ((toldActs >> act) & 1) == 0)) {
                return;
            }
            toldActs |= 1 << act;
            advance();
            if (!stands(token == NUMBER && value <= PLACES)) {
                return;
            }
            book.placesOf[act] = value;
            advance();
            if (stands(token == END_OF_ITEM)) {
                advance();
            }
        }

        private void readCall(Book book) {
            advance();
            int from = value;
            if (!stands(token == ACT)) {
                return;
            }
            advance();
            int to = value;
            if (!stands(token == ACT)) {
                return;
            }
            advance();
            int i = book.size;
            book.add(from, to);
            for (int n = 0; n < BYTES && token != END_OF_ITEM && fault < 0; n++) {
                readArc(book, i);
            }
            if (fault < 0) {
                advance();
            }
        }

        private void readArc(Book book, int i) {
            int x = value;
            if (!stands(token == NUMBER && x < book.placesOf[book.from[i]])) {
                return;
            }
            advance();
            int v = token == IS_LESS ? LESS : KEPT;
            if (!stands(token == IS_LESS || token == IS_KEPT)) {
                return;
            }
            advance();
            int y = value;
            if (!stands(token == NUMBER && y < book.placesOf[book.to[i]])) {
                return;
            }
            int told = Arcs.at(book.arcs[i], x, y);
            book.arcs[i] = Arcs.with(book.arcs[i], x, y, Math.max(told, v));
            advance();
        }

        /** A token that can't stand where it is makes the fault; the caller goes no further then. */
        private boolean stands(boolean fits) {
            if (!fits) {
                fault = start;
            }
            return fits;
        }

        private void advance() {
            start = behind;
            while (start < size && bytes[start] == ' ') {
                start++;
            }
            behind = start + 1;
            value = 0;
            if (start >= size) {
                behind = size;
                token = END_OF_TEXT;
            } else if (isLetter(start)) {
                scanWord();
            } else if (isFigure(start)) {
                scanNumber();
            } else {
                scanSign(bytes[start]);
            }
        }

        private void scanSign(int sign) {
            token = UNKNOWN;
            if (sign >= 'A' && sign < 'A' + ACTS) {
                token = ACT;
                value = sign - 'A';
            } else if (sign == '>') {
                token = IS_LESS;
            } else if (sign == '=') {
                token = IS_KEPT;
            } else if (sign == ';') {
                token = END_OF_ITEM;
            }
        }

        private void scanWord() {
            while (behind < size && isLetter(behind)) {
                behind++;
            }
            token = isWord("act") ? WORD_ACT : isWord("call") ? WORD_CALL : UNKNOWN;
        }

        private void scanNumber() {
            while (behind < size && isFigure(behind)) {
                behind++;
            }
            token = behind == start + 1 ? NUMBER : UNKNOWN;
            value = bytes[start] - '0';
        }

        private boolean isLetter(int place) {
            return bytes[place] >= 'a' && bytes[place] <= 'z';
        }

        private boolean isFigure(int place) {
            return bytes[place] >= '0' && bytes[place] <= '9';
        }

        private boolean isWord(String word) {
            if (behind - start != word.length()) {
                return false;
            }
            for (int i = 0; i < word.length(); i++) {
                if (bytes[start + i] != word.charAt(i)) {
                    return false;
                }
            }
            return true;
        }
    }

    /** A way told call by call. */
    private static final class RoundTrip {
        static final int MOST = 12;

        final int[] calls = new int[MOST];
        int size;

        boolean goesOnBy(Book book, int call) {
            return size == 0 || book.to[calls[size - 1]] == book.from[call];
        }

        boolean take(int call) {
            if (size >= MOST) {
                return false;
            }
            calls[size] = call;
            size++;
            return true;
        }

        int empty() {
            int had = size;
            size = 0;
            return had;
        }

        boolean comesBack(Book book) {
            return size > 0 && book.to[calls[size - 1]] == book.from[calls[0]];
        }

        int arcsOfAll(Book book) {
            int arcs = book.arcs[calls[0]];
            for (int i = 1; i < size; i++) {
                arcs = Arcs.join(arcs, book.arcs[calls[i]]);
            }
            return arcs;
        }
    }

    /**
     * The graphs of all ways of a book's calls, in the order in which they are found: by ways of
     * fewer calls first, then by the calls' numbers. So the way by which a graph is found is the
     * first of its shortest ones.
     */
    private static final class Closure {
        static final int MOST = 1000;
        /** More than twice as many as graphs, so that looking for one stays short. */
        static final int SLOTS = 2048;
        static final int[] GAPS = {701, 301, 132, 57, 23, 10, 4, 1};

        final int[] keys = new int[MOST];
        /** The graph of the way without its last call (-1: there is none), and that call. */
        final int[] before = new int[MOST];
        final int[] lastCall = new int[MOST];
        final int[] slots = new int[SLOTS];
        final int[] keysInOrder = new int[MOST];
        /** For each call and each row of arcs: the row joined with the call; and for which arcs that was made. */
        final int[] joinedRows = new int[CALLS * (Arcs.ROW + 1)];
        final int[] joinedFor = new int[CALLS];
        int size;
        boolean large;
        boolean inOrder;
        /** The first BAD graph that was found, -1 if none; and the acts that have one, as bits. */
        int firstBad = -1;
        int badActs;

        Closure() {
            Arrays.fill(joinedFor, -1);
        }

        void grow(Book book, int leftOut, boolean stopAtBad) {
            size = 0;
            large = false;
            inOrder = false;
            firstBad = -1;
            badActs = 0;
            Arrays.fill(slots, 0);
            for (int c = 0; c < book.size; c++) {
                if (((leftOut >> c) & 1) == 0) {
                    prepare(c, book.arcs[c]);
                    add(Keys.of(book.from[c], book.to[c], book.arcs[c]), -1, c);
                }
            }
            for (int i = 0; i < size && i < MOST && !large; i++) {
                if (Keys.isBad(keys[i])) {
                    noteBad(i);
                    if (stopAtBad) {
                        return;
                    }
                }
                goOnFrom(i, book, leftOut);
            }
        }

        private void noteBad(int i) {
            badActs |= 1 << Keys.from(keys[i]);
            if (firstBad < 0) {
                firstBad = i;
            }
        }

        private void prepare(int call, int arcs) {
            if (joinedFor[call] == arcs) {
                return;
            }
            for (int row = 0; row <= Arcs.ROW; row++) {
                // no arc has both bits: rows with such arcs are never asked for
                if ((row & (row >> 1) & Arcs.LOW_BITS) == 0) {
                    joinedRows[call * (Arcs.ROW + 1) + row] = Arcs.joinRow(row, arcs);
                }
            }
            joinedFor[call] = arcs;
        }

        private void goOnFrom(int i, Book book, int leftOut) {
            int key = keys[i];
            int from = Keys.from(key);
            int to = Keys.to(key);
            for (int c = 0; c < book.size; c++) {
                if (book.from[c] == to && ((leftOut >> c) & 1) == 0) {
                    add(Keys.of(from, book.to[c], joinedWithCall(key, c)), i, c);
                }
            }
        }

        private int joinedWithCall(int key, int call) {
            int rows = call * (Arcs.ROW + 1);
            return joinedRows[rows + Arcs.row(key, 0)]
                    | (joinedRows[rows + Arcs.row(key, 1)] << 2 * PLACES)
                    | (joinedRows[rows + Arcs.row(key, 2)] << 4 * PLACES);
        }

        private void add(int key, int way, int call) {
            int slot = freeSlotFor(key);
            if (slot < 0) {
                return;
            }
            if (size >= MOST) {
                large = true;
                return;
            }
            // 0 is an empty slot, and a key may be 0
            slots[slot] = key + 1;
            keys[size] = key;
            before[size] = way;
            lastCall[size] = call;
            size++;
        }

        /** Where the key can be kept; -1 if it is kept already. */
        private int freeSlotFor(int key) {
            int first = (key * 0x9E3779B1) >>> 21;
            for (int i = 0; i < SLOTS; i++) {
                int slot = (first + i) & (SLOTS - 1);
                if (slots[slot] == 0) {
                    return slot;
                }
                if (slots[slot] == key + 1) {
                    return -1;
                }
            }
            return -1;
        }

        /** How many calls the way has by which the i-th graph was found; 0 if there is no such graph. */
        int wayLength(int i) {
            int n = 0;
            for (int at = i; at >= 0 && at < size && n < MOST; at = before[at]) {
                n++;
            }
            return n;
        }

        int callOnWay(int i, int k) {
            int at = i;
            for (int back = wayLength(i) - 1 - k; back > 0 && at >= 0 && at < size; back--) {
                at = before[at];
            }
            return at >= 0 && at < size ? lastCall[at] : NONE;
        }

        int callsOnWay(int i) {
            int set = 0;
            int n = 0;
            for (int at = i; at >= 0 && at < size && n < MOST; at = before[at]) {
                set |= 1 << lastCall[at];
                n++;
            }
            return set;
        }

        int keyInOrder(int k) {
            if (!inOrder) {
                System.arraycopy(keys, 0, keysInOrder, 0, size);
                for (int g = 0; g < GAPS.length; g++) {
                    sortByGap(GAPS[g]);
                }
                inOrder = true;
            }
            return k >= 0 && k < size ? keysInOrder[k] : NONE;
        }

        private void sortByGap(int gap) {
            for (int i = gap; i < size; i++) {
                int key = keysInOrder[i];
                int at = i;
                for (; at >= gap && keysInOrder[at - gap] > key; at -= gap) {
                    keysInOrder[at] = keysInOrder[at - gap];
                }
                keysInOrder[at] = key;
            }
        }

        /** Whether each graph from the act to itself falls by an order of places. */
        boolean fallsBy(int order, int act) {
            for (int i = 0; i < size; i++) {
                int key = keys[i];
                if (Keys.from(key) == act && Keys.to(key) == act && !fallsByOrder(order, Keys.arcs(key))) {
                    return false;
                }
            }
            return true;
        }

        private static boolean fallsByOrder(int order, int arcs) {
            for (int rest = order; rest > 0; rest >>= 2) {
                int place = (rest & 3) - 1;
                int v = place < 0 ? 0 : Arcs.at(arcs, place, place);
                if (v != KEPT) {
                    return v == LESS;
                }
            }
            return false;
        }
    }

    /** What becomes of the end if calls are left out or arcs are weakened; kept until the calls change. */
    private static final class Mending {
        static final int SETS = 1 << CALLS;

        final Closure trial = new Closure();
        /** Sets of calls of BAD ways: what mends must leave out a call of each, most sets are refused by that alone. */
        final int[] badWays = new int[SETS];
        int badWaysSize;
        int set = -1;
        final int[] needed = new int[CALLS * Arcs.PAIRS];
        int neededSize;
        boolean neededTried;
        boolean neededFound;

        void forget() {
            set = -1;
            neededTried = false;
        }

        int leastSet(Book book) {
            if (set >= 0) {
                return set;
            }
            badWaysSize = 0;
            int sets = 1 << book.size;
            for (int n = 0; n < book.size; n++) {
                for (int tried = 0; tried < sets; tried++) {
                    if (Integer.bitCount(tried) == n && mends(book, tried)) {
                        set = tried;
                        return set;
                    }
                }
            }
            // without any calls all must end
            set = sets - 1;
            return set;
        }

        private boolean mends(Book book, int leftOut) {
            for (int i = 0; i < badWaysSize; i++) {
                if ((badWays[i] & leftOut) == 0) {
                    return false;
                }
            }
            trial.grow(book, leftOut, true);
            if (trial.firstBad < 0) {
                return true;
            }
            if (badWaysSize < SETS) {
                badWays[badWaysSize] = trial.callsOnWay(trial.firstBad);
                badWaysSize++;
            }
            return false;
        }

        /** Whether the needed arcs can be told: not, if the graphs are too many with one of the arcs KEPT. */
        boolean findsNeeded(Book book) {
            if (!neededTried) {
                neededSize = 0;
                neededFound = true;
                for (int i = 0; i < CALLS * Arcs.PAIRS && neededFound; i++) {
                    tryKept(book, i);
                }
                neededTried = true;
            }
            return neededFound;
        }

        private void tryKept(Book book, int i) {
            int call = i / Arcs.PAIRS;
            int x = i % Arcs.PAIRS / PLACES;
            int y = i % PLACES;
            if (!book.hasPair(call, x, y) || Arcs.at(book.arcs[call], x, y) != LESS) {
                return;
            }
            int told = book.arcs[call];
            book.arcs[call] = Arcs.with(told, x, y, KEPT);
            // not stopped at a BAD one: whether it is LARGE must be known all the same
            trial.grow(book, 0, false);
            book.arcs[call] = told;
            neededFound = !trial.large;
            if (trial.firstBad >= 0 && neededSize < needed.length) {
                needed[neededSize] = i;
                neededSize++;
            }
        }

        int neededAt(int k) {
            return k >= 0 && k < neededSize ? needed[k] : BAD;
        }
    }

    /**
     * Runs with told sizes. A state is an act and its sizes in one int: two bits for each size, the
     * act above them. What may come after greater sizes holds what may come after smaller ones, so
     * the longest run always goes on with the greatest sizes that a call allows.
     */
    private static final class Runs {
        static final int ACT = 6;
        static final int SIZES = (1 << ACT) - 1;
        static final int STATES = ACTS << ACT;

        static final int NEW = 0;
        static final int OPEN = 1;
        static final int CLOSED = 2;

        int most = 2;
        final int[] mark = new int[STATES];
        /** For the longest run: the open states, the next call to try and the longest so far of each. */
        final int[] open = new int[STATES];
        final int[] nextCall = new int[STATES];
        final int[] longestOf = new int[STATES];
        int depth;

        /** -1 if the sizes are not such as the act may have. */
        int stateOf(Book book, int act, int a, int b, int c) {
            int places = book.placesOf[act];
            if (!fits(a, places > 0) || !fits(b, places > 1) || !fits(c, places > 2)) {
                return -1;
            }
            return (act << ACT) | (c << 4) | (b << 2) | a;
        }

        private boolean fits(int size, boolean isPlace) {
            return size >= 0 && size <= (isPlace ? most : 0);
        }

        /** The greatest sizes with which a call goes on from a state; -1 if it can't be gone. */
        private int greatestAfter(Book book, int call, int state) {
            int act = book.to[call];
            int after = act << ACT;
            for (int y = 0; y < book.placesOf[act]; y++) {
                int size = greatestAt(book.arcs[call], y, state);
                if (size < 0) {
                    return -1;
                }
                after |= size << 2 * y;
            }
            return after;
        }

        private int greatestAt(int arcs, int y, int state) {
            int size = most;
            for (int x = 0; x < PLACES; x++) {
                int v = Arcs.at(arcs, x, y);
                if (v != 0) {
                    int had = (state >> 2 * x) & 3;
                    size = Math.min(size, v == LESS ? had - 1 : had);
                }
            }
            return size;
        }

        int longestFrom(Book book, int state) {
            Arrays.fill(mark, NEW);
            depth = 0;
            openState(state);
            // a step tries a call of a state or closes it
            for (int step = 0; step < STATES * (CALLS + 1) && depth > 0; step++) {
                int at = open[depth - 1];
                int call = nextCall[at];
                nextCall[at]++;
                if (!book.hasCall(call)) {
                    closeState(at);
                } else if (book.from[call] == at >> ACT && !goesBy(book, call, at)) {
                    return ENDLESS;
                }
            }
            return longestOf[state];
        }

        private void openState(int state) {
            if (depth < STATES) {
                mark[state] = OPEN;
                nextCall[state] = 0;
                longestOf[state] = 0;
                open[depth] = state;
                depth++;
            }
        }

        private void closeState(int state) {
            mark[state] = CLOSED;
            depth--;
            if (depth > 0) {
                lengthen(open[depth - 1], state);
            }
        }

        private void lengthen(int state, int after) {
            longestOf[state] = Math.max(longestOf[state], longestOf[after] + 1);
        }

        /** False if the call leads back to an open state: from there one may go round for ever. */
        private boolean goesBy(Book book, int call, int state) {
            int after = greatestAfter(book, call, state);
            if (after < 0) {
                return true;
            }
            if (mark[after] == OPEN) {
                return false;
            }
            if (mark[after] == NEW) {
                openState(after);
            } else {
                lengthen(state, after);
            }
            return true;
        }

        int statesAfter(Book book, int state) {
            Arrays.fill(mark, NEW);
            int n = 0;
            for (int call = 0; call < book.size; call++) {
                if (book.from[call] == state >> ACT) {
                    n += markUpTo(greatestAfter(book, call, state));
                }
            }
            return n;
        }

        /** How many states with no greater sizes were not marked yet. */
        private int markUpTo(int greatest) {
            if (greatest < 0) {
                return 0;
            }
            int n = 0;
            int least = greatest & ~SIZES;
            for (int state = least; state <= greatest && state < STATES; state++) {
                if (mark[state] == NEW && isWithin(state, greatest)) {
                    mark[state] = CLOSED;
                    n++;
                }
            }
            return n;
        }

        private static boolean isWithin(int state, int greatest) {
            return (state & 3) <= (greatest & 3)
                    && ((state >> 2) & 3) <= ((greatest >> 2) & 3)
                    && ((state >> 4) & 3) <= ((greatest >> 4) & 3);
        }
    }

    /** A call's weight as if of a kind; each kind asks the one above it, and leaves its mark in the trace. */
    private static final class Weights {
        long asked;

        int ofCall(Book book, int i) {
            asked += 1;
            return Arcs.howMany(book.arcs[i], KEPT);
        }

        int ofSelf(Book book, int i) {
            asked += 10;
            return ofCall(book, i) + Arcs.howMany(book.arcs[i], LESS);
        }

        int ofOther(Book book, int i) {
            asked += 100;
            return ofCall(book, i) * 2;
        }

        int ofPlain(Book book, int i) {
            asked += 1000;
            return ofSelf(book, i) - Arcs.howManyToThemselves(book.arcs[i]);
        }

        int ofFar(Book book, int i) {
            asked += 10000;
            return ofOther(book, i) + book.placesOf[book.to[i]];
        }
    }
}

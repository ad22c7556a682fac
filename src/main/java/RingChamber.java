import java.util.Arrays;

/** A desk for change ringing. The project's document tells, promise by promise, what each call does. */
public final class RingChamber {
    public static final int NONE = -1;

    private static final int FINE = 0;
    private static final int WRONG = 1;
    private static final int MISSING = 2;
    private static final int TOO_FEW = 3;
    private static final int TOO_MANY = 4;
    private static final int UNFIT = 5;
    private static final int NO_SUCH = 6;
    private static final int CANNOT = 7;
    private static final int UNLIKE = 8;
    private static final int FAULTY = 9;

    private static final int TRAYS = 4;
    private static final int SORTS = 4;
    private static final int TRAY_NUMBERS = 60;
    private static final int TAPE_BYTES = 900;
    private static final int FEED_BYTES = 20;
    private static final int TOUCH_BYTES = 300;
    private static final int LEAST_STAGE = 4;
    private static final int MOST_STAGE = 8;
    private static final int MOST_METHODS = 4;
    private static final int MOST_RINGERS = 8;
    private static final int MOST_CHANGES = 32;
    private static final int CALLS = 3;
    private static final int CALL_SETS = 8;
    private static final int MOST_STEPS = 30;
    private static final int MOST_LOOPS = 3;
    private static final int MOST_TIMES = 99;
    private static final int STEPS_RUNG = 300;
    private static final int CHANGES_RUNG = 2000;
    private static final int MOST_POWER = 99;
    private static final int LEAST_RUN = 3;
    private static final int LAST_SEED = 9999;
    private static final int MOST_SEEDS = 20;
    private static final int DRAWS = 16;
    private static final int MOST_LEADS = 8;
    private static final int MOST_MARKS = 3;

    private int status = FINE;
    private long top = 0;
    private long bottom = 1;
    private final Tray[] trays = new Tray[TRAYS];
    private final Tokens tokens = new Tokens();
    private final BookReader bookReader = new BookReader(tokens);
    private final TouchReader touchReader = new TouchReader(tokens);
    private Book book = new Book(LEAST_STAGE, Rows.allBells(LEAST_STAGE), new Method[0]);
    private Touch touch = null;
    /** The touch once it is rung. */
    private Touch rung = null;
    private final Book[] markedBooks = new Book[MOST_MARKS];
    private final Touch[] markedTouches = new Touch[MOST_MARKS];
    private final Touch[] markedRung = new Touch[MOST_MARKS];
    private int marked = 0;
    private final Stamps stamps = new Stamps();
    private final Search search = new Search();
    private final Composer composer = new Composer();

    public RingChamber() {
    }

    public int status() {
        return status;
    }

    public long top() {
        return top;
    }

    public long bottom() {
        return bottom;
    }

    // ---- TRAYS

    public boolean tray(int tray, int sort, int many) {
        if (!isTray(tray) || sort < 0 || sort >= SORTS || many < 0 || many > TRAY_NUMBERS) {
            return deny(WRONG);
        }
        trays[tray] = new Tray(sort, many);
        return grant();
    }

    public boolean write(int tray, int place, long v) {
        int why = whyNoPlace(tray, place);
        if (why != FINE) {
            return deny(why);
        }
        Tray held = trays[tray];
        held.numbers[place] = Tray.cut(v, held.sort);
        return grant();
    }

    public long read(int tray, int place) {
        int why = whyNoPlace(tray, place);
        if (why != FINE) {
            return refuse(why);
        }
        status = FINE;
        return trays[tray].numbers[place];
    }

    public boolean pour(int from, int place, int to, int at, int many) {
        if (!isTray(from) || !isTray(to) || place < 0 || at < 0 || many < 0) {
            return deny(WRONG);
        }
        Tray source = trays[from];
        Tray target = trays[to];
        if (source == null || target == null) {
            return deny(MISSING);
        }
        if (source.sort != target.sort) {
            return deny(UNLIKE);
        }
        if (!source.has(place, many) || !target.has(at, many)) {
            return deny(TOO_FEW);
        }
        System.arraycopy(source.numbers, place, target.numbers, at, many);
        return grant();
    }

    // ---- texts

    public int feed(int a, int b, int c, int d, int e) {
        if (tokens.taped > TAPE_BYTES - FEED_BYTES) {
            return NONE;
        }
        tokens.tapeInt(a);
        tokens.tapeInt(b);
        tokens.tapeInt(c);
        tokens.tapeInt(d);
        tokens.tapeInt(e);
        return tokens.taped;
    }

    public int book(int n) {
        if (n < 0 || n > tokens.taped) {
            return refuse(WRONG);
        }
        if (!bookReader.takes(n)) {
            return refuse(FAULTY);
        }
        book = bookReader.made();
        touch = null;
        rung = null;
        return answer(book.methods.length);
    }

    public int touch(int n) {
        if (n < 0 || n > tokens.taped || n > TOUCH_BYTES) {
            return refuse(WRONG);
        }
        if (!touchReader.takes(n, book)) {
            return refuse(FAULTY);
        }
        touch = touchReader.made(book);
        rung = null;
        return answer(touch.steps);
    }

    public int fault(int what) {
        if (what == 0) {
            return tokens.fault;
        }
        return what == 1 ? tokens.faultAt : NONE;
    }

    public int told(int what) {
        switch (what) {
            case 0:
                return answer(book.stage);
            case 1:
                return answer(book.methods.length);
            case 2:
                return answer(book.rows);
            case 3:
                return answer(book.silent);
            case 4:
                return touch == null ? refuse(NO_SUCH) : answer(touch.steps);
            case 5:
                return rung == null ? refuse(NO_SUCH) : answer(rung.last());
            default:
                return refuse(WRONG);
        }
    }

    // ---- ROWS

    public int bell(int row, int place) {
        if (!isRow(row) || !isBell(place)) {
            return refuse(WRONG);
        }
        return answer(Rows.bellAt(packed(row), place - 1) + 1);
    }

    public int number(int tray) {
        int why = whyNoBells(tray, 1);
        if (why != FINE) {
            return refuse(why);
        }
        int row = 0;
        int met = 0;
        for (int p = 0; p < book.stage; p++) {
            int bell = (int) trays[tray].numbers[p] - 1;
            if ((met & 1 << bell) != 0) {
                return refuse(UNFIT);
            }
            met |= 1 << bell;
            row |= bell << 4 * p;
        }
        return answer(numbered(row));
    }

    public int product(int a, int b) {
        if (!isRow(a) || !isRow(b)) {
            return refuse(WRONG);
        }
        return answer(Rows.rankMultiplied(packed(a), packed(b), book.stage));
    }

    public int inverse(int row) {
        if (!isRow(row)) {
            return refuse(WRONG);
        }
        return answer(numbered(Rows.invert(packed(row), book.stage)));
    }

    public int order(int row) {
        if (!isRow(row)) {
            return refuse(WRONG);
        }
        return answer(Rows.orderOf(packed(row), book.stage));
    }

    public int even(int row) {
        if (!isRow(row)) {
            return refuse(WRONG);
        }
        return answer(Rows.isEven(packed(row), book.stage) ? 1 : 0);
    }

    public int done(int row, int places) {
        if (!isRow(row)) {
            return refuse(WRONG);
        }
        int move = Rows.moveOf(places, book.stage);
        if (move == NONE) {
            return refuse(CANNOT);
        }
        return answer(numbered(Rows.moved(packed(row), move)));
    }

    public int power(int row, int n) {
        if (!isRow(row) || n < 0 || n > MOST_POWER) {
            return refuse(WRONG);
        }
        int factor = packed(row);
        int all = Rows.roundsOf(book.stage);
        for (int i = 0; i < n; i++) {
            all = Rows.multiply(all, factor, book.stage);
        }
        return answer(numbered(all));
    }

    public int cycles(int row, int length) {
        if (!isRow(row) || !isBell(length)) {
            return refuse(WRONG);
        }
        return answer(Rows.cyclesOf(packed(row), length, book.stage));
    }

    public int distance(int a, int b) {
        if (!isRow(a) || !isRow(b)) {
            return refuse(WRONG);
        }
        int between = Rows.multiply(Rows.invert(packed(a), book.stage), packed(b), book.stage);
        return answer(Rows.inversions(between, book.stage));
    }

    public int between(int a, int b) {
        if (!isRow(a) || !isRow(b)) {
            return refuse(WRONG);
        }
        int move = Rows.moveBetween(packed(a), packed(b), book.stage);
        if (move == NONE) {
            return refuse(CANNOT);
        }
        return answer(Rows.placesOf(move, book.stage));
    }

    // ---- METHODS

    public int changes(int method) {
        if (!isMethod(method)) {
            return refuse(WRONG);
        }
        return answer(book.methods[method].length());
    }

    public int change(int method, int call, int k) {
        if (!isMethod(method) || !isCall(call) || k < 0 || k >= book.methods[method].length()) {
            return refuse(WRONG);
        }
        return answer(Rows.placesOf(book.methods[method].moveAt(call, k), book.stage));
    }

    public int head(int method, int call) {
        if (!isMethod(method) || !isCall(call)) {
            return refuse(WRONG);
        }
        return answer(numbered(book.methods[method].heads[call]));
    }

    public int course(int method, int call) {
        if (!isMethod(method) || !isCall(call)) {
            return refuse(WRONG);
        }
        return answer(Rows.orderOf(book.methods[method].heads[call], book.stage));
    }

    public int fixed(int method, int call) {
        if (!isMethod(method) || !isCall(call)) {
            return refuse(WRONG);
        }
        return answer(Rows.fixedOf(book.methods[method].heads[call], book.stage));
    }

    public int symmetric(int method) {
        if (!isMethod(method)) {
            return refuse(WRONG);
        }
        int[] moves = book.methods[method].moves;
        return answer(readsBackward(moves, moves.length - 1) ? 1 : 0);
    }

    public int leadTrue(int method) {
        if (!isMethod(method)) {
            return refuse(WRONG);
        }
        return answer(book.methods[method].isUnlike(1) ? 1 : 0);
    }

    public int falseAgainst(int method, int row) {
        if (!isMethod(method) || !isRow(row)) {
            return refuse(WRONG);
        }
        if (row == 0) {
            return answer(0);
        }
        Method tried = book.methods[method];
        int begun = packed(row);
        for (int k = 1; k <= tried.length(); k++) {
            if (tried.behind(Rows.multiply(begun, tried.rows[k], book.stage)) != NONE) {
                return answer(1);
            }
        }
        return answer(0);
    }

    public int falses(int method) {
        if (!isMethod(method)) {
            return refuse(WRONG);
        }
        return answer(stamps.stampFalse(book, book.methods[method], 1));
    }

    public int leadsTo(int method, int row) {
        if (!isMethod(method) || !isRow(row)) {
            return refuse(WRONG);
        }
        int head = book.methods[method].heads[0];
        int sought = packed(row);
        int come = Rows.roundsOf(book.stage);
        int course = Rows.orderOf(head, book.stage);
        for (int leads = 0; leads < course; leads++) {
            if (come == sought) {
                return answer(leads);
            }
            come = Rows.multiply(come, head, book.stage);
        }
        return refuse(NO_SUCH);
    }

    public int inLead(int method, int row) {
        if (!isMethod(method) || !isRow(row)) {
            return refuse(WRONG);
        }
        int k = book.methods[method].behind(packed(row));
        return k == NONE ? refuse(NO_SUCH) : answer(k);
    }

    // ---- a TOUCH

    public int ring() {
        if (touch == null) {
            return refuse(NO_SUCH);
        }
        rung = touch;
        return answer(rung.last());
    }

    public int rowAt(int k) {
        int why = whyNotRung(k);
        if (why != FINE) {
            return refuse(why);
        }
        return answer(numbered(rung.rows[k]));
    }

    public int round() {
        int k = rung == null ? NONE : rung.firstRounds();
        return k == NONE ? refuse(NO_SUCH) : answer(k);
    }

    public int isTrue() {
        if (rung == null) {
            return refuse(NO_SUCH);
        }
        return answer(rung.secondAlike(stamps) == NONE ? 1 : 0);
    }

    public int falseAt(int what) {
        if (what != 0 && what != 1) {
            return refuse(WRONG);
        }
        int second = rung == null ? NONE : rung.secondAlike(stamps);
        if (second == NONE) {
            return refuse(NO_SUCH);
        }
        return answer(what == 1 ? second : rung.firstLike(second));
    }

    public int repeats() {
        if (rung == null) {
            return refuse(NO_SUCH);
        }
        return answer(rung.alike(stamps, 0));
    }

    public int place(int bell, int k) {
        int why = isBell(bell) ? whyNotRung(k) : WRONG;
        if (why != FINE) {
            return refuse(why);
        }
        return answer(rung.spot(bell - 1, k) + 1);
    }

    public int blows(int bell, int place) {
        if (!isBell(bell) || !isBell(place)) {
            return refuse(WRONG);
        }
        if (rung == null) {
            return refuse(NO_SUCH);
        }
        int shift = 4 * (place - 1);
        return answer(rung.fitting(15 << shift, (bell - 1) << shift));
    }

    public int music(int tray) {
        int why = whyNoBells(tray, 0);
        if (why == FINE && rung == null) {
            why = NO_SUCH;
        }
        if (why != FINE) {
            return refuse(why);
        }
        int asked = 0;
        int wanted = 0;
        for (int p = 0; p < book.stage; p++) {
            int bell = (int) trays[tray].numbers[p];
            if (bell > 0) {
                asked |= 15 << 4 * p;
                wanted |= (bell - 1) << 4 * p;
            }
        }
        return answer(rung.fitting(asked, wanted));
    }

    public int runs(int n) {
        if (n < LEAST_RUN || n > book.stage) {
            return refuse(WRONG);
        }
        return rung == null ? refuse(NO_SUCH) : answer(rung.runsOf(n));
    }

    public int dodges(int bell) {
        if (!isBell(bell)) {
            return refuse(WRONG);
        }
        return rung == null ? refuse(NO_SUCH) : answer(rung.dodgesOf(bell - 1));
    }

    public int lies(int bell) {
        if (!isBell(bell)) {
            return refuse(WRONG);
        }
        return rung == null ? refuse(NO_SUCH) : answer(rung.liesOf(bell - 1));
    }

    public int backward() {
        if (rung == null) {
            return refuse(NO_SUCH);
        }
        return answer(readsBackward(rung.moves, rung.moves.length) ? 1 : 0);
    }

    public int heard(int i, int k) {
        int why = whyNotRung(i);
        if (why != FINE) {
            return refuse(why);
        }
        int bell = rung.heardBell(i, k, book.silent);
        return bell == NONE ? refuse(NO_SUCH) : answer(bell + 1);
    }

    public int heardAlike() {
        if (rung == null) {
            return refuse(NO_SUCH);
        }
        return answer(rung.alike(stamps, book.silent));
    }

    public boolean evens() {
        if (rung == null || rung.last() == 0) {
            return deny(NO_SUCH);
        }
        tellFraction(rung.evenRows(), rung.last());
        return grant();
    }

    public int strayed(int seed, int sixteenths) {
        if (!isSeed(seed) || sixteenths < 0 || sixteenths > DRAWS) {
            return refuse(WRONG);
        }
        if (touch == null) {
            return refuse(NO_SUCH);
        }
        return answer(numbered(touch.strayedRow(seed, sixteenths)));
    }

    public boolean odds(int seed, int many, int sixteenths) {
        if (!isSeed(seed) || many < 1 || many > MOST_SEEDS || !isSeed(seed + many - 1)
                || sixteenths < 0 || sixteenths > DRAWS) {
            return deny(WRONG);
        }
        if (touch == null) {
            return deny(NO_SUCH);
        }
        int due = touch.rows[touch.last()];
        int come = 0;
        for (int i = 0; i < many; i++) {
            if (touch.strayedRow(seed + i, sixteenths) == due) {
                come++;
            }
        }
        tellFraction(come, many);
        return grant();
    }

    // ---- searches

    public int way(int row) {
        if (!isRow(row)) {
            return refuse(WRONG);
        }
        search.over(book);
        if (!search.isFound(row)) {
            return refuse(NO_SUCH);
        }
        search.keepWay(row);
        return answer(search.wayLength);
    }

    public int wayAt(int k, int what) {
        if (what != 0 && what != 1) {
            return refuse(WRONG);
        }
        if (k < 0 || k >= search.wayLength) {
            return refuse(NO_SUCH);
        }
        int lead = search.way[k];
        return answer(what == 0 ? lead / CALLS : lead % CALLS);
    }

    public int extent() {
        search.over(book);
        return answer(search.found);
    }

    public int compositions(int method, int leads, int calls) {
        if (!isMethod(method) || leads < 1 || leads > MOST_LEADS || calls < 1 || calls >= CALL_SETS) {
            return refuse(WRONG);
        }
        return answer(composer.composed(book, book.methods[method], leads, calls, stamps));
    }

    public int callAt(int k) {
        if (k < 0 || k >= composer.firstLength) {
            return refuse(NO_SUCH);
        }
        return answer(composer.first[k]);
    }

    // ---- MARKS

    public int mark() {
        if (marked >= MOST_MARKS) {
            return refuse(TOO_MANY);
        }
        markedBooks[marked] = book;
        markedTouches[marked] = touch;
        markedRung[marked] = rung;
        marked++;
        return answer(marked);
    }

    public int back() {
        if (marked <= 0) {
            return refuse(NO_SUCH);
        }
        marked--;
        book = markedBooks[marked];
        touch = markedTouches[marked];
        rung = markedRung[marked];
        return answer(marked);
    }

    // ---- what the calls share

    private int answer(int value) {
        status = FINE;
        return value;
    }

    private int refuse(int why) {
        status = why;
        return NONE;
    }

    private boolean grant() {
        status = FINE;
        return true;
    }

    private boolean deny(int why) {
        status = why;
        return false;
    }

    private static boolean isTray(int tray) {
        return tray >= 0 && tray < TRAYS;
    }

    private static boolean isCall(int call) {
        return call >= 0 && call < CALLS;
    }

    private static boolean isSeed(int seed) {
        return seed >= 0 && seed <= LAST_SEED;
    }

    private boolean isRow(int row) {
        return row >= 0 && row < book.rows;
    }

    /** Bells and places are told by the same numbers. */
    private boolean isBell(int bell) {
        return bell >= 1 && bell <= book.stage;
    }

    private boolean isMethod(int method) {
        return method >= 0 && method < book.methods.length;
    }

    private int packed(int number) {
        return Rows.unrank(number, book.stage);
    }

    private int numbered(int row) {
        return Rows.rank(row, book.stage);
    }

    private int whyNoPlace(int tray, int place) {
        if (!isTray(tray)) {
            return WRONG;
        }
        if (trays[tray] == null) {
            return MISSING;
        }
        return trays[tray].has(place, 1) ? FINE : TOO_FEW;
    }

    private int whyNoBells(int tray, int least) {
        if (!isTray(tray)) {
            return WRONG;
        }
        if (trays[tray] == null) {
            return MISSING;
        }
        if (!trays[tray].has(0, book.stage)) {
            return TOO_FEW;
        }
        for (int p = 0; p < book.stage; p++) {
            long v = trays[tray].numbers[p];
            if (v < least || v > book.stage) {
                return UNFIT;
            }
        }
        return FINE;
    }

    /** Without anything rung only a row below 0 can't be; how many there are is not known then. */
    private int whyNotRung(int k) {
        if (k < 0) {
            return WRONG;
        }
        if (rung == null) {
            return NO_SUCH;
        }
        return k > rung.last() ? WRONG : FINE;
    }

    private void tellFraction(int part, int whole) {
        int divisor = commonDivisor(part, whole);
        if (divisor > 0) {
            top = part / divisor;
            bottom = whole / divisor;
        }
    }

    private static int commonDivisor(int a, int b) {
        int high = a;
        int low = b;
        for (int i = 0; i < 64 && low != 0; i++) {
            int rest = high % low;
            high = low;
            low = rest;
        }
        return high;
    }

    private static boolean readsBackward(int[] moves, int many) {
        for (int i = 0; i < many / 2; i++) {
            if (moves[i] != moves[many - 1 - i]) {
                return false;
            }
        }
        return true;
    }

    private static final class Tray {
        final int sort;
        final long[] numbers;

        Tray(int sort, int many) {
            this.sort = sort;
            this.numbers = new long[many];
        }

        boolean has(int place, int many) {
            return place >= 0 && place <= numbers.length && many <= numbers.length - place;
        }

        static long cut(long v, int sort) {
            switch (sort) {
                case 0:
                    return (byte) v;
                case 1:
                    return (short) v;
                case 2:
                    return (int) v;
                default:
                    return v;
            }
        }
    }

    /**
     * Rows as the nibbles of an int, place 1 lowest, each the bell less one; changes as a move: the
     * nibbles of the lower places of all pairs that are exchanged. So a change costs a few masks, and
     * no row needs an array of its own.
     */
    private static final class Rows {
        private static final int ALL = 0x76543210;
        private static final int ABOVE = 0x11111110;
        /** The least common multiple of 1 to 8: no row's order is above it. */
        private static final int MOST_ORDER = 840;
        private static final int[] FACTORIALS = {1, 1, 2, 6, 24, 120, 720, 5040, 40320};

        static int many(int stage) {
            return stage >= 0 && stage < FACTORIALS.length ? FACTORIALS[stage] : 0;
        }

        static int allBells(int stage) {
            return (1 << stage) - 1;
        }

        static int roundsOf(int stage) {
            return ALL & (int) ((1L << 4 * stage) - 1);
        }

        static int bellAt(int row, int place) {
            return row >>> 4 * place & 7;
        }

        /** The nibble of a bell in left is how many bells below it are not met yet. */
        static int rank(int row, int stage) {
            int left = ALL;
            int number = 0;
            for (int p = 0; p < stage; p++) {
                int at = (row >>> 4 * p & 7) << 2;
                number = number * (stage - p) + (left >>> at & 7);
                left -= ABOVE << at;
            }
            return number;
        }

        /** The rank of a product, without the product, as searches ask for it most. */
        static int rankMultiplied(int a, int b, int stage) {
            int left = ALL;
            int number = 0;
            for (int p = 0; p < stage; p++) {
                int at = (a >>> ((b >>> 4 * p & 7) << 2) & 7) << 2;
                number = number * (stage - p) + (left >>> at & 7);
                left -= ABOVE << at;
            }
            return number;
        }

        static int unrank(int number, int stage) {
            int unused = ALL;
            int rest = number;
            int row = 0;
            for (int p = 0; p < stage; p++) {
                int size = Math.max(1, many(stage - 1 - p));
                int at = rest / size << 2;
                rest %= size;
                row |= (unused >>> at & 7) << 4 * p;
                int below = (1 << at) - 1;
                unused = unused & below | unused >>> 4 & ~below;
            }
            return row;
        }

        static int multiply(int a, int b, int stage) {
            int row = 0;
            for (int p = 0; p < stage; p++) {
                row |= (a >>> ((b >>> 4 * p & 7) << 2) & 7) << 4 * p;
            }
            return row;
        }

        static int invert(int row, int stage) {
            int inverse = 0;
            for (int p = 0; p < stage; p++) {
                inverse |= p << ((row >>> 4 * p & 7) << 2);
            }
            return inverse;
        }

        static int orderOf(int row, int stage) {
            int rounds = roundsOf(stage);
            int come = row;
            int times = 1;
            while (come != rounds && times < MOST_ORDER) {
                come = multiply(come, row, stage);
                times++;
            }
            return times;
        }

        static int inversions(int row, int stage) {
            int left = ALL;
            int many = 0;
            for (int p = 0; p < stage; p++) {
                int at = (row >>> 4 * p & 7) << 2;
                many += left >>> at & 7;
                left -= ABOVE << at;
            }
            return many;
        }

        static boolean isEven(int row, int stage) {
            return (inversions(row, stage) & 1) == 0;
        }

        static int cyclesOf(int row, int length, int stage) {
            int met = 0;
            int many = 0;
            for (int p = 0; p < stage; p++) {
                int gone = 0;
                int at = p;
                while (gone < stage && (met & 1 << at) == 0) {
                    met |= 1 << at;
                    at = bellAt(row, at);
                    gone++;
                }
                if (gone == length) {
                    many++;
                }
            }
            return many;
        }

        static int fixedOf(int row, int stage) {
            int set = 0;
            for (int p = 0; p < stage; p++) {
                if (bellAt(row, p) == p) {
                    set |= 1 << p;
                }
            }
            return set;
        }

        static int moved(int row, int move) {
            return row & ~(move | move << 4) | (row & move) << 4 | row >>> 4 & move;
        }

        /** The move by a number of places (0: x), or NONE. */
        static int moveOf(int places, int stage) {
            if (places < 0) {
                return NONE;
            }
            int stays = 0;
            int behind = stage + 1;
            for (int rest = places; rest > 0; rest /= 10) {
                int place = rest % 10;
                if (place < 1 || place >= behind) {
                    return NONE;
                }
                stays |= 1 << place - 1;
                behind = place;
            }
            return moveAround(stays, stage);
        }

        private static int moveAround(int stays, int stage) {
            int move = 0;
            for (int p = 0; p < stage; p++) {
                if ((stays & 1 << p) == 0) {
                    if (p + 1 == stage || (stays & 1 << p + 1) != 0) {
                        return NONE;
                    }
                    move |= 15 << 4 * p;
                    p++;
                }
            }
            return move;
        }

        static int moveBetween(int a, int b, int stage) {
            int stays = 0;
            for (int p = 0; p < stage; p++) {
                if (bellAt(a, p) == bellAt(b, p)) {
                    stays |= 1 << p;
                }
            }
            int move = moveAround(stays, stage);
            return move != NONE && moved(a, move) == b ? move : NONE;
        }

        static int placesOf(int move, int stage) {
            int places = 0;
            for (int p = 0; p < stage; p++) {
                if ((move & 15 << 4 * p) == 0) {
                    places = places * 10 + p + 1;
                } else {
                    p++;
                }
            }
            return places;
        }
    }

    private static final class Method {
        final long name;
        /** The changes of a plain lead. */
        final int[] moves;
        /** rows[k] stands behind k changes of a plain lead from rounds. */
        final int[] rows;
        final int[] lasts;
        final int[] heads;

        Method(long name, int stage, int[] moves, int bob, int single) {
            this.name = name;
            this.moves = moves;
            rows = new int[moves.length + 1];
            lasts = new int[CALLS];
            heads = new int[CALLS];
            rows[0] = Rows.roundsOf(stage);
            for (int k = 0; k < moves.length; k++) {
                rows[k + 1] = Rows.moved(rows[k], moves[k]);
            }
            int last = moves.length - 1;
            if (last >= 0) {
                lasts[0] = moves[last];
                lasts[1] = bob;
                lasts[2] = single;
                for (int call = 0; call < CALLS; call++) {
                    heads[call] = Rows.moved(rows[last], lasts[call]);
                }
            }
        }

        int length() {
            return moves.length;
        }

        int moveAt(int call, int k) {
            return k == moves.length - 1 ? lasts[call] : moves[k];
        }

        /** Behind which change a row is there first, or NONE. */
        int behind(int row) {
            for (int k = 1; k < rows.length; k++) {
                if (rows[k] == row) {
                    return k;
                }
            }
            return NONE;
        }

        /** Whether as many rows as there are changes, from one on, are unlike one another. */
        boolean isUnlike(int from) {
            int end = Math.min(from + moves.length, rows.length);
            for (int i = from; i < end; i++) {
                for (int j = i + 1; j < end; j++) {
                    if (rows[i] == rows[j]) {
                        return false;
                    }
                }
            }
            return true;
        }
    }

    /** Never changed once it is made, so that marks may keep it as it is. */
    private static final class Book {
        final int stage;
        final int rows;
        final int silent;
        final Method[] methods;

        Book(int stage, int silent, Method[] methods) {
            this.stage = stage;
            this.rows = Rows.many(stage);
            this.silent = silent;
            this.methods = methods;
        }

        Method methodNamed(long name) {
            for (int m = 0; m < methods.length; m++) {
                if (methods[m].name == name) {
                    return methods[m];
                }
            }
            return null;
        }
    }

    /**
     * A touch, held as the changes and rows that it comes to: they depend on nothing but the book.
     * Never changed once it is made, so that marks may keep it as it is.
     */
    private static final class Touch {
        final int stage;
        final int steps;
        final int[] moves;
        final int[] rows;

        Touch(int stage, int steps, int[] moves) {
            this.stage = stage;
            this.steps = steps;
            this.moves = moves;
            rows = new int[moves.length + 1];
            rows[0] = Rows.roundsOf(stage);
            for (int k = 0; k < moves.length; k++) {
                rows[k + 1] = Rows.moved(rows[k], moves[k]);
            }
        }

        int strayedRow(int seed, int sixteenths) {
            int row = rows[0];
            int s = seed;
            for (int k = 0; k < moves.length; k++) {
                int move = moves[k];
                s = (s * 2693 + 10007) % 65536;
                if (s / 8 % DRAWS < sixteenths) {
                    int lowest = move & -move;
                    move &= ~(lowest * 15);
                }
                row = Rows.moved(row, move);
            }
            return row;
        }

        int last() {
            return rows.length - 1;
        }

        int firstRounds() {
            return nextLike(rows[0]);
        }

        int firstLike(int second) {
            return nextLike(rows[second]);
        }

        private int nextLike(int row) {
            for (int k = 1; k < rows.length; k++) {
                if (rows[k] == row) {
                    return k;
                }
            }
            return NONE;
        }

        int secondAlike(Stamps stamps) {
            stamps.begin(Rows.many(stage));
            for (int k = 1; k < rows.length; k++) {
                if (!stamps.add(Rows.rank(rows[k], stage))) {
                    return k;
                }
            }
            return NONE;
        }

        int alike(Stamps stamps, int silent) {
            stamps.begin(Rows.many(stage));
            int many = 0;
            for (int k = 1; k < rows.length; k++) {
                int row = silent == 0 ? rows[k] : silentLast(rows[k], silent);
                if (!stamps.add(Rows.rank(row, stage))) {
                    many++;
                }
            }
            return many;
        }

        /** Rows are heard alike if they are the same with the silent bells put last in their order. */
        private int silentLast(int row, int silent) {
            int put = 0;
            int shift = 0;
            for (int p = 0; p < stage; p++) {
                int bell = Rows.bellAt(row, p);
                if ((silent & 1 << bell) == 0) {
                    put |= bell << shift;
                    shift += 4;
                }
            }
            for (int bell = 0; bell < stage; bell++) {
                if ((silent & 1 << bell) != 0) {
                    put |= bell << shift;
                    shift += 4;
                }
            }
            return put;
        }

        int heardBell(int i, int k, int silent) {
            int many = 0;
            for (int p = 0; p < stage; p++) {
                int bell = Rows.bellAt(rows[i], p);
                if ((silent & 1 << bell) == 0) {
                    if (many == k) {
                        return bell;
                    }
                    many++;
                }
            }
            return NONE;
        }

        int spot(int bell, int k) {
            for (int p = 0; p < stage; p++) {
                if (Rows.bellAt(rows[k], p) == bell) {
                    return p;
                }
            }
            return NONE;
        }

        int fitting(int asked, int wanted) {
            int many = 0;
            for (int k = 1; k < rows.length; k++) {
                if ((rows[k] & asked) == wanted) {
                    many++;
                }
            }
            return many;
        }

        int runsOf(int n) {
            int many = 0;
            for (int k = 1; k < rows.length; k++) {
                int up = 1;
                int down = 1;
                for (int p = 1; p < stage; p++) {
                    int step = Rows.bellAt(rows[k], p) - Rows.bellAt(rows[k], p - 1);
                    up = step == 1 ? up + 1 : 1;
                    down = step == -1 ? down + 1 : 1;
                    if (up >= n || down >= n) {
                        many++;
                    }
                }
            }
            return many;
        }

        int dodgesOf(int bell) {
            int many = 0;
            int before = NONE;
            int now = NONE;
            for (int k = 0; k < rows.length; k++) {
                int next = spot(bell, k);
                if (k > 1 && next == before && next != now) {
                    many++;
                }
                before = now;
                now = next;
            }
            return many;
        }

        int liesOf(int bell) {
            int many = 0;
            int now = NONE;
            for (int k = 0; k < rows.length; k++) {
                int next = spot(bell, k);
                if (next == now) {
                    many++;
                }
                now = next;
            }
            return many;
        }

        int evenRows() {
            int many = 0;
            for (int k = 1; k < rows.length; k++) {
                if (Rows.isEven(rows[k], stage)) {
                    many++;
                }
            }
            return many;
        }
    }

    /** A set of row numbers that is emptied by a new stamp, so that one array serves all calls. */
    private static final class Stamps {
        private int[] seen = new int[0];
        private int stamp = 0;

        void begin(int rows) {
            if (seen.length < rows) {
                seen = new int[rows];
                stamp = 0;
            }
            stamp++;
        }

        boolean has(int number) {
            return number >= 0 && number < seen.length && seen[number] == stamp;
        }

        boolean add(int number) {
            if (number < 0 || number >= seen.length || seen[number] == stamp) {
                return false;
            }
            seen[number] = stamp;
            return true;
        }

        /**
         * Puts in all rows from which a lead has a row together with that from rounds, of as many
         * rows as there are changes, from one on; tells how many they are but rounds.
         */
        int stampFalse(Book book, Method method, int from) {
            begin(book.rows);
            add(0);
            int many = 0;
            int end = Math.min(from + method.length(), method.rows.length);
            for (int j = from; j < end; j++) {
                int inverse = Rows.invert(method.rows[j], book.stage);
                for (int i = from; i < end; i++) {
                    if (add(Rows.rankMultiplied(method.rows[i], inverse, book.stage))) {
                        many++;
                    }
                }
            }
            return many;
        }
    }

    /** All rows that leads come to from rounds, kept until another book is asked. */
    private static final class Search {
        private static final int LEADS = MOST_METHODS * CALLS;

        private Book searched = null;
        private int[] queue = new int[0];
        /** By a row's number: 0 not found, else 1 and the lead and LEADS times the row ahead. */
        private int[] foundBy = new int[0];
        private final int[] heads = new int[LEADS];
        private final int[] leads = new int[LEADS];
        private int tried = 0;
        int found = 0;
        int[] way = new int[32];
        int wayLength = 0;

        void over(Book book) {
            if (searched == book) {
                return;
            }
            searched = book;
            if (queue.length < book.rows) {
                queue = new int[book.rows];
                foundBy = new int[book.rows];
            } else {
                Arrays.fill(foundBy, 0);
            }
            gatherHeads(book);
            keepFound(Rows.roundsOf(book.stage), 0, 1, 0);
            for (int at = 0; at < found && at < queue.length; at++) {
                spread(queue[at], book.stage);
            }
        }

        /** A head that was there already, or is rounds, never finds a row first. */
        private void gatherHeads(Book book) {
            tried = 0;
            found = 0;
            for (int m = 0; m < book.methods.length; m++) {
                for (int call = 0; call < CALLS; call++) {
                    int head = book.methods[m].heads[call];
                    if (tried < LEADS && head != Rows.roundsOf(book.stage) && !isTried(head)) {
                        heads[tried] = head;
                        leads[tried] = m * CALLS + call;
                        tried++;
                    }
                }
            }
        }

        private boolean isTried(int head) {
            for (int i = 0; i < tried; i++) {
                if (heads[i] == head) {
                    return true;
                }
            }
            return false;
        }

        private void spread(int row, int stage) {
            int ahead = Rows.rank(row, stage) * LEADS;
            for (int i = 0; i < tried; i++) {
                int number = Rows.rankMultiplied(row, heads[i], stage);
                if (number < foundBy.length && foundBy[number] == 0) {
                    keepFound(Rows.multiply(row, heads[i], stage), number, leads[i] + 1, ahead);
                }
            }
        }

        private void keepFound(int row, int number, int lead, int ahead) {
            if (found < queue.length && number < foundBy.length) {
                queue[found] = row;
                foundBy[number] = ahead + lead;
                found++;
            }
        }

        boolean isFound(int number) {
            return number >= 0 && number < foundBy.length && foundBy[number] != 0;
        }

        void keepWay(int number) {
            int length = 0;
            for (int at = number; at != 0 && length < foundBy.length; at = rowAhead(at)) {
                length++;
            }
            if (way.length < length) {
                way = new int[length];
            }
            wayLength = length;
            int at = number;
            for (int k = length - 1; k >= 0; k--) {
                way[k] = isFound(at) ? (foundBy[at] - 1) % LEADS : 0;
                at = rowAhead(at);
            }
        }

        private int rowAhead(int number) {
            return isFound(number) ? (foundBy[number] - 1) / LEADS : 0;
        }
    }

    /**
     * Counts compositions by the rows with which their leads begin. As the last lead's end is rounds,
     * all rows are those from each beginning on up to the one ahead of the next beginning; so a
     * composition is true if no beginning is false against an earlier one.
     */
    private static final class Composer {
        /** Far above all rows of eight calls and their beginnings. */
        private static final int MOST_TRIES = 1000000;

        private final int[] calls = new int[MOST_LEADS];
        private final int[] begun = new int[MOST_LEADS];
        private final int[] undone = new int[MOST_LEADS];
        final int[] first = new int[MOST_LEADS];
        int firstLength = 0;
        private int many = 0;

        int composed(Book book, Method method, int leads, int allowed, Stamps falseRows) {
            many = 0;
            firstLength = 0;
            if (method.isUnlike(0)) {
                falseRows.stampFalse(book, method, 0);
                tryCalls(book.stage, method, Math.min(leads, MOST_LEADS), allowed, falseRows);
            }
            return many;
        }

        private void tryCalls(int stage, Method method, int leads, int allowed, Stamps falseRows) {
            int rounds = Rows.roundsOf(stage);
            int depth = 0;
            begin(0, rounds, stage);
            for (int tries = 0; tries < MOST_TRIES && depth >= 0; tries++) {
                calls[depth]++;
                if (calls[depth] >= CALLS) {
                    depth--;
                } else if ((allowed & 1 << calls[depth]) != 0) {
                    int row = Rows.multiply(begun[depth], method.heads[calls[depth]], stage);
                    if (depth + 1 < leads) {
                        if (!isFalse(depth + 1, row, stage, falseRows)) {
                            depth++;
                            begin(depth, row, stage);
                        }
                    } else if (row == rounds) {
                        keep(leads);
                    }
                }
            }
        }

        private void begin(int depth, int row, int stage) {
            begun[depth] = row;
            undone[depth] = Rows.invert(row, stage);
            calls[depth] = NONE;
        }

        private boolean isFalse(int depth, int row, int stage, Stamps falseRows) {
            for (int i = 0; i < depth; i++) {
                if (falseRows.has(Rows.rankMultiplied(undone[i], row, stage))) {
                    return true;
                }
            }
            return false;
        }

        private void keep(int leads) {
            if (many == 0) {
                System.arraycopy(calls, 0, first, 0, leads);
                firstLength = leads;
            }
            many++;
        }
    }

    /** The tape, the tokens of a text on it, and the first fault in the text read latest. */
    private static final class Tokens {
        static final int NOTHING = 0;
        static final int TEXT_END = 1;
        static final int SIGN = 2;
        static final int NUMBER = 3;
        static final int NAME = 4;
        static final int LONG_WORD = 5;
        static final int STAGE = 6;
        static final int METHOD = 7;
        static final int X = 8;
        static final int BACK = 9;
        static final int BOB = 10;
        static final int SINGLE = 11;
        static final int RINGER = 12;
        static final int PLAIN = 13;
        static final int PART = 14;
        static final int LOOP = 15;
        static final int END = 16;
        static final int STOP = 17;
        private static final int MOST_LETTERS = 8;
        private static final int MOST_DIGITS = 8;

        private final byte[] text = new byte[TAPE_BYTES];
        int taped = 0;
        /** The words that are no names, from that of the kind STAGE on. */
        private final long[] reserved = new long[STOP - STAGE + 1];
        private int length = 0;
        private int start = 0;
        private int end = 0;
        int kind = TEXT_END;
        int value = 0;
        /** A word of up to eight letters, as a number to the base 27. */
        long word = 0;
        int fault = NONE;
        int faultAt = NONE;

        Tokens() {
            reserved[STAGE - STAGE] = wordOf("stage");
            reserved[METHOD - STAGE] = wordOf("method");
            reserved[X - STAGE] = wordOf("x");
            reserved[BACK - STAGE] = wordOf("back");
            reserved[BOB - STAGE] = wordOf("bob");
            reserved[SINGLE - STAGE] = wordOf("single");
            reserved[RINGER - STAGE] = wordOf("ringer");
            reserved[PLAIN - STAGE] = wordOf("plain");
            reserved[PART - STAGE] = wordOf("part");
            reserved[LOOP - STAGE] = wordOf("loop");
            reserved[END - STAGE] = wordOf("end");
            reserved[STOP - STAGE] = wordOf("stop");
        }

        void tapeInt(int v) {
            for (int shift = 24; shift >= 0 && taped < text.length; shift -= 8) {
                text[taped] = (byte) (v >>> shift);
                taped++;
            }
        }

        /** The tape is empty from now on, but its bytes stand until the next ones come. */
        void open(int n) {
            length = Math.min(n, text.length);
            taped = 0;
            end = 0;
            fault = 0;
            faultAt = NONE;
            next();
        }

        void next() {
            start = end;
            while (start < length && (text[start] == ' ' || text[start] == '\n')) {
                start++;
            }
            end = start;
            if (start >= length) {
                kind = TEXT_END;
            } else if (isLetter(start)) {
                readWord();
            } else if (isDigit(start)) {
                readNumber();
            } else {
                kind = text[start] == ';' ? SIGN : NOTHING;
                end++;
            }
        }

        private boolean isLetter(int at) {
            return text[at] >= 'a' && text[at] <= 'z';
        }

        private boolean isDigit(int at) {
            return text[at] >= '0' && text[at] <= '9';
        }

        private void readWord() {
            word = 0;
            while (end < length && isLetter(end)) {
                word = word * 27 + (text[end] - 'a' + 1);
                end++;
            }
            kind = end - start > MOST_LETTERS ? LONG_WORD : NAME;
            for (int i = 0; i < reserved.length && kind == NAME; i++) {
                if (reserved[i] == word) {
                    kind = STAGE + i;
                }
            }
        }

        private void readNumber() {
            value = 0;
            while (end < length && isDigit(end)) {
                value = value * 10 + (text[end] - '0');
                end++;
            }
            kind = end - start > MOST_DIGITS ? NOTHING : NUMBER;
        }

        private static long wordOf(String letters) {
            long number = 0;
            for (int i = 0; i < letters.length(); i++) {
                number = number * 27 + (letters.charAt(i) - 'a' + 1);
            }
            return number;
        }

        /** A 0 ahead is a digit of the places too, though the value does not show it. */
        boolean beginsWithZero() {
            return start < length && text[start] == '0';
        }

        boolean isAt(int sought) {
            return kind == sought;
        }

        boolean take(int sought) {
            if (kind != sought) {
                return misplaced();
            }
            next();
            return true;
        }

        boolean misplaced() {
            return wrong(kind == NOTHING ? 1 : 2);
        }

        boolean wrong(int which) {
            fault = which;
            faultAt = start;
            return false;
        }
    }

    private static final class BookReader {
        private final Tokens tokens;
        private int stage = LEAST_STAGE;
        private int methods = 0;
        private int ringers = 0;
        private int rungBells = 0;
        private int move = NONE;
        private final long[] names = new long[MOST_METHODS + MOST_RINGERS];
        private final long[] methodNames = new long[MOST_METHODS];
        private final int[][] moves = new int[MOST_METHODS][MOST_CHANGES];
        private final int[] lengths = new int[MOST_METHODS];
        private final int[] bobs = new int[MOST_METHODS];
        private final int[] singles = new int[MOST_METHODS];

        BookReader(Tokens tokens) {
            this.tokens = tokens;
        }

        boolean takes(int n) {
            methods = 0;
            ringers = 0;
            rungBells = 0;
            tokens.open(n);
            if (!takesStage()) {
                return false;
            }
            for (int i = 0; i <= TAPE_BYTES && !tokens.isAt(Tokens.TEXT_END); i++) {
                boolean taken = false;
                if (tokens.isAt(Tokens.METHOD)) {
                    taken = takesMethod();
                } else if (tokens.isAt(Tokens.RINGER)) {
                    taken = takesRinger();
                } else {
                    taken = tokens.misplaced();
                }
                if (!taken) {
                    return false;
                }
            }
            return true;
        }

        Book made() {
            Method[] all = new Method[methods];
            for (int m = 0; m < methods; m++) {
                int[] lead = Arrays.copyOf(moves[m], lengths[m]);
                all[m] = new Method(methodNames[m], stage, lead, bobs[m], singles[m]);
            }
            return new Book(stage, Rows.allBells(stage) & ~rungBells, all);
        }

        private boolean takesStage() {
            if (!tokens.take(Tokens.STAGE)) {
                return false;
            }
            if (!tokens.isAt(Tokens.NUMBER)) {
                return tokens.misplaced();
            }
            if (tokens.value < LEAST_STAGE || tokens.value > MOST_STAGE) {
                return tokens.wrong(4);
            }
            stage = tokens.value;
            tokens.next();
            return tokens.take(Tokens.SIGN);
        }

        private boolean takesRinger() {
            if (ringers >= MOST_RINGERS) {
                return tokens.wrong(6);
            }
            tokens.next();
            if (!takesNewName()) {
                return false;
            }
            ringers++;
            if (!tokens.isAt(Tokens.NUMBER)) {
                return tokens.misplaced();
            }
            if (tokens.value < 1 || tokens.value > stage) {
                return tokens.wrong(4);
            }
            int bell = 1 << tokens.value - 1;
            if ((rungBells & bell) != 0) {
                return tokens.wrong(5);
            }
            rungBells |= bell;
            tokens.next();
            return tokens.take(Tokens.SIGN);
        }

        private boolean takesMethod() {
            if (methods >= MOST_METHODS) {
                return tokens.wrong(6);
            }
            tokens.next();
            methodNames[methods] = tokens.word;
            if (!takesNewName() || !takesChanges() || !takesBack()) {
                return false;
            }
            int last = lengths[methods] > 0 ? moves[methods][lengths[methods] - 1] : 0;
            if (!takesCall(Tokens.BOB, last)) {
                return false;
            }
            bobs[methods] = move;
            if (!takesCall(Tokens.SINGLE, last)) {
                return false;
            }
            singles[methods] = move;
            methods++;
            return tokens.take(Tokens.SIGN);
        }

        private boolean takesNewName() {
            if (!tokens.isAt(Tokens.NAME)) {
                return tokens.misplaced();
            }
            int taken = methods + ringers;
            for (int i = 0; i < taken && i < names.length; i++) {
                if (names[i] == tokens.word) {
                    return tokens.wrong(3);
                }
            }
            if (taken < names.length) {
                names[taken] = tokens.word;
            }
            tokens.next();
            return true;
        }

        /** Looks at places, but leaves them: they may be one too many all the same. */
        private boolean seesPlaces() {
            if (tokens.isAt(Tokens.X)) {
                move = Rows.moveOf(0, stage);
            } else if (tokens.isAt(Tokens.NUMBER)) {
                move = tokens.beginsWithZero() ? NONE : Rows.moveOf(tokens.value, stage);
            } else {
                return tokens.misplaced();
            }
            return move != NONE || tokens.wrong(4);
        }

        private boolean takesChanges() {
            int[] lead = moves[methods];
            lengths[methods] = 0;
            for (int k = 0; k <= MOST_CHANGES; k++) {
                if (k > 0 && !tokens.isAt(Tokens.X) && !tokens.isAt(Tokens.NUMBER)) {
                    return true;
                }
                if (!seesPlaces()) {
                    return false;
                }
                if (k >= MOST_CHANGES) {
                    return tokens.wrong(6);
                }
                lead[k] = move;
                lengths[methods] = k + 1;
                tokens.next();
            }
            return true;
        }

        private boolean takesBack() {
            if (!tokens.isAt(Tokens.BACK)) {
                return true;
            }
            int told = lengths[methods];
            if (told < 1 || 2 * told > MOST_CHANGES) {
                return tokens.wrong(6);
            }
            tokens.next();
            if (!seesPlaces()) {
                return false;
            }
            int[] lead = moves[methods];
            for (int k = 0; k < told - 1; k++) {
                lead[told + k] = lead[told - 2 - k];
            }
            lead[2 * told - 1] = move;
            lengths[methods] = 2 * told;
            tokens.next();
            return true;
        }

        private boolean takesCall(int call, int last) {
            if (!tokens.isAt(call)) {
                move = last;
                return true;
            }
            tokens.next();
            if (!seesPlaces()) {
                return false;
            }
            tokens.next();
            return true;
        }
    }

    private static final class TouchReader {
        private static final int MOST_LINES = 2 * MOST_STEPS;
        /** Loops come back at most so often for each step that is rung. */
        private static final int MOST_VISITS = STEPS_RUNG * (MOST_TIMES + 1);

        private final Tokens tokens;
        private int steps = 0;
        private int depth = 0;
        private int lines = 0;
        /** Each line is a step, or an end of a loop, by the kind of its word. */
        private final int[] kinds = new int[MOST_LINES];
        private final int[] counts = new int[MOST_LINES];
        private final Method[] named = new Method[MOST_LINES];
        private final int[] begun = new int[MOST_LOOPS];
        private final int[] left = new int[MOST_LOOPS];
        private final int[] moves = new int[CHANGES_RUNG];
        private int moved = 0;

        TouchReader(Tokens tokens) {
            this.tokens = tokens;
        }

        boolean takes(int n, Book book) {
            steps = 0;
            depth = 0;
            lines = 0;
            tokens.open(n);
            for (int i = 0; i <= TOUCH_BYTES && !tokens.isAt(Tokens.TEXT_END); i++) {
                boolean taken = tokens.isAt(Tokens.END) ? takesEnd() : takesStep(book);
                if (!taken) {
                    return false;
                }
            }
            return depth == 0 || tokens.misplaced();
        }

        private boolean takesEnd() {
            if (depth == 0) {
                return tokens.misplaced();
            }
            depth--;
            addLine(Tokens.END);
            tokens.next();
            return tokens.take(Tokens.SIGN);
        }

        private boolean takesStep(Book book) {
            int kind = tokens.kind;
            if (!isStep(kind)) {
                return tokens.misplaced();
            }
            if (steps >= MOST_STEPS) {
                return tokens.wrong(6);
            }
            if (kind == Tokens.LOOP && depth >= MOST_LOOPS) {
                return tokens.wrong(7);
            }
            steps++;
            addLine(kind);
            tokens.next();
            if (kind == Tokens.LOOP) {
                depth++;
                return takesCount(MOST_TIMES) && tokens.take(Tokens.SIGN);
            }
            if (kind != Tokens.STOP && !takesMethodName(book)) {
                return false;
            }
            if (kind == Tokens.PART && !takesCount(lastCount())) {
                return false;
            }
            return tokens.take(Tokens.SIGN);
        }

        private static boolean isStep(int kind) {
            switch (kind) {
                case Tokens.PLAIN:
                case Tokens.BOB:
                case Tokens.SINGLE:
                case Tokens.PART:
                case Tokens.LOOP:
                case Tokens.STOP:
                    return true;
                default:
                    return false;
            }
        }

        private void addLine(int kind) {
            if (lines < MOST_LINES) {
                kinds[lines] = kind;
                counts[lines] = 0;
                named[lines] = null;
                lines++;
            }
        }

        /** The line's count is all changes of the method, as long as no part is told. */
        private boolean takesMethodName(Book book) {
            if (!tokens.isAt(Tokens.NAME)) {
                return tokens.misplaced();
            }
            Method method = book.methodNamed(tokens.word);
            if (method == null) {
                return tokens.wrong(3);
            }
            if (lines > 0) {
                named[lines - 1] = method;
                counts[lines - 1] = method.length();
            }
            tokens.next();
            return true;
        }

        private int lastCount() {
            return lines > 0 ? counts[lines - 1] : 0;
        }

        private boolean takesCount(int most) {
            if (!tokens.isAt(Tokens.NUMBER)) {
                return tokens.misplaced();
            }
            if (tokens.value < 1 || tokens.value > most) {
                return tokens.wrong(4);
            }
            if (lines > 0) {
                counts[lines - 1] = tokens.value;
            }
            tokens.next();
            return true;
        }

        /** Goes through the lines as they are rung; loops are closed, as the text was taken. */
        Touch made(Book book) {
            moved = 0;
            depth = 0;
            int rungSteps = 0;
            int at = 0;
            for (int i = 0; i < MOST_VISITS + STEPS_RUNG && at < lines; i++) {
                int kind = kinds[at];
                if (kind == Tokens.END) {
                    at = behindEnd(at);
                    continue;
                }
                if (kind == Tokens.STOP || rungSteps >= STEPS_RUNG) {
                    break;
                }
                rungSteps++;
                if (kind == Tokens.LOOP) {
                    beginLoop(at);
                } else {
                    ringLead(at);
                }
                at++;
            }
            return new Touch(book.stage, steps, Arrays.copyOf(moves, moved));
        }

        private void beginLoop(int at) {
            if (depth < MOST_LOOPS) {
                begun[depth] = at + 1;
                left[depth] = counts[at];
                depth++;
            }
        }

        private int behindEnd(int at) {
            if (depth > 0) {
                left[depth - 1]--;
                if (left[depth - 1] > 0) {
                    return begun[depth - 1];
                }
                depth--;
            }
            return at + 1;
        }

        private void ringLead(int at) {
            Method method = named[at];
            if (method == null) {
                return;
            }
            int call = kinds[at] == Tokens.BOB ? 1 : kinds[at] == Tokens.SINGLE ? 2 : 0;
            int many = Math.min(counts[at], Math.min(method.length(), CHANGES_RUNG - moved));
            for (int k = 0; k < many; k++) {
                moves[moved] = method.moveAt(call, k);
                moved++;
            }
        }
    }
}

import java.util.Arrays;

/**
 * Stores and streams: a text of stores, streams, helpers, held numbers, tables and delays is read into a
 * world that is stepped exactly. The document (DOC.md) tells what every call answers.
 *
 * <p>All rows are made once, by the constructor, and used again: no call makes an object.
 */
public final class StoreStreams {
    public static final int BAD = -1, FULL = -2, NONE = -3, STATE = -4, NO = -2147483648;

    /** What the host refuses. */
    private static final int NOTHING = -11, OUTSIDE = -12, OTHER = -13, BELOW = -14, PARTED = -15;

    private static final int TAPE_MOST = 300, THINGS_MOST = 16, OPEN_MOST = 4, CORNERS_MOST = 6;
    private static final int EVENTS_MOST = 6, RING_MOST = 6, ALL_RINGS = -1, TRACE_MOST = 30, DELAY_MOST = 9;
    private static final int STEP_LAST = 60, STEPS_KEPT = 61, HOLD_MOST = 999999;
    private static final int REST_MOST = 200, TRIES_MOST = 20, ROWS_END = 222, NO_NUMBER = -1;
    private static final int SHEETS = 4, SHEET_MOST = 40, SORT_LAST = 3, INTS = 2, MISSING = -1;
    private static final int SHELVES = 4, KINDS = 7, SORTS_FROM = 10, ACT_LAST = 3;

    /** No postfix E needs more: five levels, of each at most four numbers wait for what comes behind. */
    private static final int STACK_MOST = 32;

    private static final int STORE = 1, DELAY = 2, STREAM = 3, TABLE = 4, NUMBER = 5, HELPER = 6;
    private static final int OUT = -9;

    /** The kind that each kind is under; kind 0 is under none and stands for itself. */
    private static final int[] ABOVE = {0, 0, STORE, 0, STREAM, 0, NUMBER};

    /** KEYS as numbers to the base 27, like NAMES: the longest has six letters, which an int can hold. */
    private static final int KEY_OF = 15 * 27 + 6, KEY_TO = 20 * 27 + 15;
    private static final int KEY_OUT = (15 * 27 + 21) * 27 + 20;
    private static final int KEY_FROM = ((6 * 27 + 18) * 27 + 15) * 27 + 13;
    private static final int KEY_STORE = (((19 * 27 + 20) * 27 + 15) * 27 + 18) * 27 + 5;
    private static final int KEY_TABLE = (((20 * 27 + 1) * 27 + 2) * 27 + 12) * 27 + 5;
    private static final int KEY_DELAY = (((4 * 27 + 5) * 27 + 12) * 27 + 1) * 27 + 25;
    private static final int KEY_LEAST = (((12 * 27 + 5) * 27 + 1) * 27 + 19) * 27 + 20;
    private static final int KEY_STREAM = ((((19 * 27 + 20) * 27 + 18) * 27 + 5) * 27 + 1) * 27 + 13;
    private static final int KEY_HELPER = ((((8 * 27 + 5) * 27 + 12) * 27 + 16) * 27 + 5) * 27 + 18;
    private static final int KEY_NUMBER = ((((14 * 27 + 21) * 27 + 13) * 27 + 2) * 27 + 5) * 27 + 18;
    private static final int[] KEYS = {KEY_OF, KEY_TO, KEY_OUT, KEY_FROM, KEY_STORE, KEY_TABLE, KEY_DELAY,
        KEY_LEAST, KEY_STREAM, KEY_HELPER, KEY_NUMBER};

    private static final int NAME_LETTERS = 5, KEY_LETTERS = 6, DIGITS_MOST = 5, N_MOST = 99999;
    private static final int END = 0, WORD = 1, DIGITS = 2, SIGN = 3, LEVEL_LAST = 2;

    /** The marks of E's postfix code: a mark in the lowest four bits, what it is about above them. */
    private static final int PUSH = 0, NAMED = 1, TURN = 2, LOOK = 3, PLUS = 4, MINUS = 5, TIMES = 6;
    private static final int PARTS = 7, LESS = 8, SAME = 9, LEAST = 10;

    private static final int ON_SHELF_THING = 1, ON_SHELF_ROW = 2;

    private final Scribe scribe = new Scribe();
    private Text text = new Text();
    private final World world = new World();
    private final World thought = new World();
    private final int[] past = new int[STEPS_KEPT * THINGS_MOST];
    private final int[] swung = new int[STEPS_KEPT * THINGS_MOST];

    private boolean isKept = false;
    private final Text keptText = new Text();
    private final World keptWorld = new World();
    private final int[] keptPast = new int[STEPS_KEPT * THINGS_MOST];

    private int rowCount = 0;
    private final int[] rows = new int[2 * STEPS_KEPT];

    private final int[] sheetSorts = {MISSING, MISSING, MISSING, MISSING};
    private final int[] sheetSizes = new int[SHEETS];
    private final int[] sheetItems = new int[SHEETS * SHEET_MOST];

    private final int[] shelfHolds = new int[SHELVES];
    private final int[] shelfNumbers = new int[SHELVES];
    private final int[] shelfSizes = new int[SHELVES];

    private final Doing doing = new Doing();
    private final Thing[] kinds = {new Thing(), new Store(), new Delay(), new Stream(), new Table(), new Held(),
        new Helper()};

    public StoreStreams() {
    }

    // ---- the text

    public int feed(long eight, int n) {
        if (n < 1 || n > 8) return BAD;
        if (scribe.fed + n > TAPE_MOST) return FULL;
        for (int k = 0; k < n; k++) scribe.tape[scribe.fed + k] = (int) (eight >>> (8 * k)) & 255;
        scribe.fed += n;
        return scribe.fed;
    }

    public int read() {
        if (!scribe.write()) return -100 - scribe.faultKind;
        Text old = text;
        text = scribe.text;
        scribe.text = old;
        world.eventCount = 0;
        rowCount = 0;
        world.restart(text);
        return text.count;
    }

    public int fault(int what) {
        if (what == 0) return scribe.faultKind;
        return what == 1 ? scribe.faultPlace : BAD;
    }

    public int named(int name) {
        int i = text.find(name);
        return i < 0 ? NONE : i;
    }

    public int thing(int i, int what) {
        if (!text.has(i)) return BAD;
        switch (what) {
            case 0: return text.kinds[i];
            case 1: return text.names[i];
            case 2: return text.froms[i];
            case 3: return text.tos[i];
            default: return BAD;
        }
    }

    // ---- steps

    public int value(int i) {
        return text.has(i) ? world.values[i] : NO;
    }

    public int at(int i, int step) {
        return text.has(i) && step >= 0 && step <= world.step ? valueThen(i, step) : NO;
    }

    public int flow(int i, int what) {
        if (!text.has(i) || what < 0 || what > 1) return BAD;
        if (text.kinds[i] != STREAM) return OTHER;
        return what == 0 ? world.flows[i] : world.values[i] - world.flows[i];
    }

    public int run(int n) {
        if (n < 1 || n > STEP_LAST) return BAD;
        if (world.step + n > STEP_LAST) return FULL;
        for (int k = 0; k < n; k++) {
            System.arraycopy(world.values, 0, past, world.step * THINGS_MOST, THINGS_MOST);
            world.advance(text);
        }
        return world.step;
    }

    public int begin() {
        int was = world.step;
        world.restart(text);
        return was;
    }

    public int change(int i, int v) {
        if (!text.is(i, NUMBER)) return NO;
        int was = world.held[i];
        world.hold(text, i, v);
        return was;
    }

    public int event(int step, int i, int v) {
        if (step <= world.step || step > STEP_LAST || !text.has(i)) return BAD;
        if (text.kinds[i] != NUMBER) return OTHER;
        if (world.eventCount >= EVENTS_MOST) return FULL;
        int number = world.eventCount;
        world.eventSteps[number] = step;
        world.eventThings[number] = i;
        world.eventValues[number] = v;
        world.eventCount++;
        return number;
    }

    public long sum(int what) {
        switch (what) {
            case 0: return world.stored(text);
            case 1: return world.spilled;
            case 2: return world.came;
            case 3: return world.went;
            default: return BAD;
        }
    }

    // ---- causes

    public int moves(int i) {
        return text.has(i) ? text.moved[i] : BAD;
    }

    public int reached(int i) {
        return text.has(i) ? text.allMovedBy(i) : BAD;
    }

    public int rings() {
        return text.seekRing(ALL_RINGS);
    }

    public int ring(int i, int what) {
        if (what < -1) return BAD;
        if (i < 0 || text.seekRing(i) <= i) return NONE;
        if (what == -1) return text.ringSize;
        return what < text.ringSize ? text.path[what] : NONE;
    }

    // ---- in thought

    public int rest(int n) {
        if (n < 0 || n > REST_MOST) return BAD;
        thought.take(world);
        for (int k = 0; k <= n; k++) {
            if (!thought.advance(text)) return k;
        }
        return NONE;
    }

    public int swing(int n, int what) {
        if (n < 0 || n > STEP_LAST || what < 0 || what > 1) return BAD;
        thought.take(world);
        System.arraycopy(thought.held, 0, swung, 0, THINGS_MOST);
        for (int k = 1; k <= n; k++) {
            thought.advance(text);
            System.arraycopy(thought.held, 0, swung, k * THINGS_MOST, THINGS_MOST);
            for (int lesser = k - 1; lesser >= 0; lesser--) {
                if (sameStores(k, lesser)) return what == 0 ? k : k - lesser;
            }
        }
        return NONE;
    }

    public int pull(int i, int by, int thing, int n) {
        if (!text.is(i, NUMBER) || !text.has(thing) || n < 0 || n > STEP_LAST) return NO;
        int number = world.held[i];
        return valueBehind(i, number + by, thing, n) - valueBehind(i, number, thing, n);
    }

    public int best(int i, int low, int high, int store, int n) {
        if (!mayTry(i, low, high, store) || n < 0 || n > STEP_LAST) return NO;
        int found = low;
        int most = valueBehind(i, low, store, n);
        for (int more = 1; more <= high - low; more++) {
            int holds = valueBehind(i, low + more, store, n);
            if (holds > most) {
                most = holds;
                found = low + more;
            }
        }
        return found;
    }

    public long miss(int store, int sheet) {
        if (!text.has(store) || !isSheet(sheet)) return BAD;
        if (text.kinds[store] != STORE || !mayBe(sheet, INTS)) return OTHER;
        if (isMissing(sheet)) return NOTHING;
        return missWith(NO_NUMBER, 0, store, sheet);
    }

    public int fit(int i, int low, int high, int store, int sheet) {
        if (!mayTry(i, low, high, store) || !isSheet(sheet) || sheetSorts[sheet] != INTS) return NO;
        int found = low;
        long least = missWith(i, low, store, sheet);
        for (int more = 1; more <= high - low; more++) {
            long missed = missWith(i, low + more, store, sheet);
            if (missed < least) {
                least = missed;
                found = low + more;
            }
        }
        return found;
    }

    // ---- rows

    public int prove(int i) {
        if (!text.has(i)) return BAD;
        rowCount = world.step + 1;
        for (int k = 0; k < rowCount; k++) {
            rows[2 * k] = k;
            rows[2 * k + 1] = valueThen(i, k);
        }
        return rowCount;
    }

    public int row(int i, int what) {
        return isRow(i, what) ? rows[2 * i + what] : NO;
    }

    public int alterRow(int i, int what, int v) {
        if (!isRow(i, what)) return NO;
        int was = rows[2 * i + what];
        rows[2 * i + what] = v;
        return was;
    }

    public int judge(int i) {
        if (!text.has(i)) return BAD;
        for (int k = 0; k < rowCount; k++) {
            // All ROWS ahead are right here, so that the step that is due is k.
            if (rows[2 * k] != k || k > world.step || rows[2 * k + 1] != valueThen(i, k)) return k + 1;
        }
        return rowCount <= world.step ? ROWS_END : 0;
    }

    // ---- the host

    public int sheet(int sheet, int sort, int n) {
        if (!isSheet(sheet) || sort < MISSING || sort > SORT_LAST) return BAD;
        if (sort != MISSING) {
            if (n > SHEET_MOST) return BAD;
            if (n < 0) return BELOW;
        }
        sheetSorts[sheet] = sort;
        sheetSizes[sheet] = sort == MISSING ? 0 : n;
        Arrays.fill(sheetItems, sheet * SHEET_MOST, (sheet + 1) * SHEET_MOST, 0);
        return 1;
    }

    public int put(int sheet, int i, int v) {
        if (!isSheet(sheet)) return BAD;
        if (isMissing(sheet)) return NOTHING;
        if (i < 0 || i >= sheetSizes[sheet]) return OUTSIDE;
        sheetItems[sheet * SHEET_MOST + i] = narrowed(v, sheetSorts[sheet]);
        return 1;
    }

    public int item(int sheet, int sort, int i) {
        if (!isSheet(sheet) || sort < 0 || sort > SORT_LAST) return BAD;
        if (!mayBe(sheet, sort)) return OTHER;
        if (isMissing(sheet)) return NOTHING;
        if (i < 0 || i >= sheetSizes[sheet]) return OUTSIDE;
        return sheetItems[sheet * SHEET_MOST + i];
    }

    public int shelf(int shelf, int what, int n) {
        if (!isShelf(shelf)) return BAD;
        switch (what) {
            case 0: return text.has(n) ? lay(shelf, ON_SHELF_THING, n, 0) : BAD;
            case 1: return isSheet(n) ? layRow(shelf, n) : BAD;
            case 2: return lay(shelf, 0, 0, 0);
            default: return BAD;
        }
    }

    public int taken(int shelf, int as) {
        boolean asKind = as >= 0 && as < KINDS;
        boolean asSort = as >= SORTS_FROM && as <= SORTS_FROM + SORT_LAST;
        if (!isShelf(shelf) || !asKind && !asSort) return BAD;
        if (shelfHolds[shelf] == ON_SHELF_ROW) {
            return as - SORTS_FROM == shelfNumbers[shelf] ? shelfSizes[shelf] : OTHER;
        }
        int i = thingOn(shelf);
        if (i < 0) return NOTHING;
        return asKind && isUnder(text.kinds[i], as) ? i : OTHER;
    }

    public int act(int shelf, int act, int x) {
        doing.clear();
        int i = isShelf(shelf) ? thingOn(shelf) : -1;
        if (i < 0 || act < 0 || act > ACT_LAST) return 0;
        doing.number = i;
        doing.letters = text.lettersOf(i);
        Thing kind = kinds[text.kinds[i]];
        int answer;
        switch (act) {
            case 0: answer = kind.reads(doing, x); break;
            case 1: answer = kind.steps(doing, x); break;
            case 2: answer = kind.units(doing, x); break;
            default: answer = kind.tells(doing, x);
        }
        return doing.isParted ? PARTED : answer;
    }

    public int trace(int i) {
        return i >= 0 && i < doing.count ? doing.bodies[i] : NONE;
    }

    public int many(int what) {
        switch (what) {
            case 0: return text.count;
            case 1: return world.step;
            case 2: return world.eventCount;
            case 3: return rowCount;
            case 4: return scribe.fed;
            case 5: return doing.count;
            default: return BAD;
        }
    }

    // ---- kept

    public int keep() {
        keptText.take(text);
        keptWorld.take(world);
        System.arraycopy(past, 0, keptPast, 0, past.length);
        isKept = true;
        return 1;
    }

    public int back() {
        if (!isKept) return NONE;
        text.take(keptText);
        world.take(keptWorld);
        System.arraycopy(keptPast, 0, past, 0, past.length);
        return world.step;
    }

    // ---- what the calls share

    /** The VALUE at a step from 0 to now: those of steps that are left stand in the past. */
    private int valueThen(int i, int step) {
        return step == world.step ? world.values[i] : past[step * THINGS_MOST + i];
    }

    private boolean sameStores(int n, int lesser) {
        for (int i = 0; i < text.count; i++) {
            if (text.kinds[i] == STORE && swung[n * THINGS_MOST + i] != swung[lesser * THINGS_MOST + i]) return false;
        }
        return true;
    }

    /** The VALUE of a THING n steps on in thought, with a NUMBER that is v now. */
    private int valueBehind(int number, int v, int thing, int n) {
        thought.take(world);
        thought.hold(text, number, v);
        for (int k = 0; k < n; k++) thought.advance(text);
        return thought.values[thing];
    }

    /** Whether the values from low to high of a NUMBER may be tried on a STORE. */
    private boolean mayTry(int number, int low, int high, int store) {
        long tries = (long) high - low;
        return text.is(number, NUMBER) && text.is(store, STORE) && tries >= 0 && tries <= TRIES_MOST;
    }

    /** MISS from begin() on, with a NUMBER that is v then, or with none told. */
    private long missWith(int number, int v, int store, int sheet) {
        thought.take(world);
        thought.restart(text);
        if (number != NO_NUMBER) thought.hold(text, number, v);
        long missed = 0;
        for (int k = 0; k < sheetSizes[sheet]; k++) {
            if (k > 0) thought.advance(text);
            int due = sheetItems[sheet * SHEET_MOST + k];
            if (due >= 0) missed += Math.abs((long) due - thought.held[store]);
        }
        return missed;
    }

    private boolean isRow(int i, int what) {
        return i >= 0 && i < rowCount && (what == 0 || what == 1);
    }

    private boolean isSheet(int sheet) {
        return sheet >= 0 && sheet < SHEETS;
    }

    private boolean isMissing(int sheet) {
        return sheetSorts[sheet] == MISSING;
    }

    /** Whether a SHEET can be taken for a sort: what is missing is of no other sort. */
    private boolean mayBe(int sheet, int sort) {
        return isMissing(sheet) || sheetSorts[sheet] == sort;
    }

    private static int narrowed(int v, int sort) {
        if (sort == 0) return (byte) v;
        // A long that is put from an int has that int for its lowest 32 bits, so it is held as this.
        return sort == 1 ? (short) v : v;
    }

    private boolean isShelf(int shelf) {
        return shelf >= 0 && shelf < SHELVES;
    }

    private int lay(int shelf, int holds, int number, int size) {
        shelfHolds[shelf] = holds;
        shelfNumbers[shelf] = number;
        shelfSizes[shelf] = size;
        return 1;
    }

    /** Only the sort and the size of a row can be asked of a SHELF, and these never change in a row. */
    private int layRow(int shelf, int sheet) {
        if (isMissing(sheet)) return lay(shelf, 0, 0, 0);
        return lay(shelf, ON_SHELF_ROW, sheetSorts[sheet], sheetSizes[sheet]);
    }

    /** The number of the THING on a SHELF, -1 if it holds none that is there now. */
    private int thingOn(int shelf) {
        boolean holds = shelfHolds[shelf] == ON_SHELF_THING && text.has(shelfNumbers[shelf]);
        return holds ? shelfNumbers[shelf] : -1;
    }

    private static boolean isUnder(int kind, int as) {
        int above = kind;
        for (int k = 0; k < KINDS; k++) {
            if (above == as) return true;
            above = ABOVE[above];
        }
        return false;
    }

    /** What a read() made of THE TAPE: THINGS by their numbers, the code of their Es, and what moves what. */
    private static final class Text {
        int count = 0;
        int codeSize = 0;
        final int[] kinds = new int[THINGS_MOST];
        final int[] names = new int[THINGS_MOST];
        final int[] firsts = new int[THINGS_MOST];
        final int[] froms = new int[THINGS_MOST];
        final int[] tos = new int[THINGS_MOST];
        final int[] codeFroms = new int[THINGS_MOST];
        final int[] codeTos = new int[THINGS_MOST];
        final int[] moved = new int[THINGS_MOST];
        final int[] corners = new int[THINGS_MOST];
        final int[] cornerAts = new int[THINGS_MOST * CORNERS_MOST];
        final int[] cornerValues = new int[THINGS_MOST * CORNERS_MOST];
        final int[] code = new int[TAPE_MOST];
        final int[] path = new int[RING_MOST];
        int ringSize = 0;
        int ringsSeen = 0;

        void clear() {
            count = 0;
            codeSize = 0;
        }

        void take(Text other) {
            count = other.count;
            codeSize = other.codeSize;
            System.arraycopy(other.kinds, 0, kinds, 0, THINGS_MOST);
            System.arraycopy(other.names, 0, names, 0, THINGS_MOST);
            System.arraycopy(other.firsts, 0, firsts, 0, THINGS_MOST);
            System.arraycopy(other.froms, 0, froms, 0, THINGS_MOST);
            System.arraycopy(other.tos, 0, tos, 0, THINGS_MOST);
            System.arraycopy(other.codeFroms, 0, codeFroms, 0, THINGS_MOST);
            System.arraycopy(other.codeTos, 0, codeTos, 0, THINGS_MOST);
            System.arraycopy(other.moved, 0, moved, 0, THINGS_MOST);
            System.arraycopy(other.corners, 0, corners, 0, THINGS_MOST);
            System.arraycopy(other.cornerAts, 0, cornerAts, 0, cornerAts.length);
            System.arraycopy(other.cornerValues, 0, cornerValues, 0, cornerValues.length);
            System.arraycopy(other.code, 0, code, 0, codeSize);
        }

        boolean has(int i) {
            return i >= 0 && i < count;
        }

        boolean is(int i, int kind) {
            return has(i) && kinds[i] == kind;
        }

        int find(int name) {
            for (int i = 0; i < count; i++) {
                if (names[i] == name) return i;
            }
            return -1;
        }

        int lettersOf(int i) {
            int letters = 0;
            for (int rest = names[i]; rest > 0 && letters < NAME_LETTERS; rest /= 27) letters++;
            return letters;
        }

        /** The THING that comes next is opened: it counts, and can be named, only when it is whole. */
        void open(int kind, int name) {
            kinds[count] = kind;
            names[count] = name;
            firsts[count] = 0;
            froms[count] = OUT;
            tos[count] = OUT;
            codeFroms[count] = codeSize;
            codeTos[count] = codeSize;
            moved[count] = 0;
            corners[count] = 0;
        }

        void close() {
            codeTos[count] = codeSize;
            if (has(froms[count])) moved[count] |= 1 << froms[count];
            if (has(tos[count])) moved[count] |= 1 << tos[count];
            count++;
        }

        /** No TOKEN makes more than one mark, so that there is room for all that THE TAPE can have. */
        boolean addCode(int mark, int about) {
            if (codeSize >= TAPE_MOST) return false;
            code[codeSize] = about << 4 | mark;
            codeSize++;
            return true;
        }

        /** What a TABLE has at x. */
        int look(int table, int x) {
            int first = table * CORNERS_MOST;
            int last = first + corners[table] - 1;
            if (x <= cornerAts[first]) return cornerValues[first];
            for (int k = first + 1; k <= last; k++) {
                if (x < cornerAts[k]) return between(k - 1, x);
            }
            return last < first ? 0 : cornerValues[last];
        }

        private int between(int corner, int x) {
            long rise = cornerValues[corner + 1] - cornerValues[corner];
            long far = x - cornerAts[corner];
            long distance = cornerAts[corner + 1] - cornerAts[corner];
            return distance <= 0 ? 0 : cornerValues[corner] + (int) (rise * far / distance);
        }

        int allMovedBy(int i) {
            int all = moved[i];
            for (int round = 0; round < count; round++) {
                for (int k = 0; k < count; k++) {
                    if ((all >> k & 1) != 0) all |= moved[k];
                }
            }
            return all;
        }

        /** Goes through the RINGS in order till the wanted one, which then is the path: how many were seen. */
        int seekRing(int wanted) {
            ringsSeen = 0;
            boolean found = false;
            for (int least = 0; least < count && !found; least++) {
                path[0] = least;
                found = goOn(1, 1 << least, wanted);
            }
            return ringsSeen;
        }

        private boolean goOn(int size, int used, int wanted) {
            int last = path[size - 1];
            if ((moved[last] >> path[0] & 1) != 0) {
                ringSize = size;
                ringsSeen++;
                if (ringsSeen - 1 == wanted) return true;
            }
            if (size >= RING_MOST) return false;
            for (int next = path[0] + 1; next < count; next++) {
                if ((moved[last] >> next & 1) != 0 && (used >> next & 1) == 0) {
                    path[size] = next;
                    if (goOn(size + 1, used | 1 << next, wanted)) return true;
                }
            }
            return false;
        }
    }

    /** THE TAPE and who reads it: token by token into a Text of its own, till THE FAULT. */
    private static final class Scribe {
        final int[] tape = new int[TAPE_MOST];
        int fed = 0;
        int faultKind = 0;
        int faultPlace = 0;
        Text text = new Text();
        private int place = 0;
        private int sort = END;
        private int start = 0;
        private int size = 0;
        private int number = 0;

        /** Writes THE TAPE into the Text and uses it up; whether it is without a FAULT. */
        boolean write() {
            text.clear();
            faultKind = 0;
            faultPlace = 0;
            place = 0;
            next();
            boolean right = true;
            for (int k = 0; k < THINGS_MOST && right && sort != END; k++) right = oneThing() && skipSign(';');
            right = right && (sort == END || wrong(1));
            fed = 0;
            return right;
        }

        /** THE FAULT is at this TOKEN: false, so that all rules around it end at once. */
        private boolean wrong(int kind) {
            faultKind = kind;
            faultPlace = start;
            return false;
        }

        // -- tokens

        /** Goes to the next TOKEN; true, so that it can stand among the parts of a rule. */
        private boolean next() {
            while (place < fed && tape[place] == ' ') place++;
            start = place;
            sort = sortAt(place);
            size = 0;
            number = 0;
            if (sort == SIGN) {
                number = tape[place];
                place++;
                return true;
            }
            int most = sort == WORD ? KEY_LETTERS : DIGITS_MOST;
            int base = sort == WORD ? 27 : 10;
            int nought = sort == WORD ? 'a' - 1 : '0';
            for (; place < fed && sortAt(place) == sort; place++) {
                size++;
                if (size <= most) number = number * base + tape[place] - nought;
            }
            return true;
        }

        private int sortAt(int at) {
            if (at >= fed) return END;
            if (tape[at] >= 'a' && tape[at] <= 'z') return WORD;
            return tape[at] >= '0' && tape[at] <= '9' ? DIGITS : SIGN;
        }

        private boolean isKey(int key) {
            return sort == WORD && size <= KEY_LETTERS && number == key;
        }

        private boolean isSign(int sign) {
            return sort == SIGN && number == sign;
        }

        private boolean isName() {
            if (sort != WORD || size > NAME_LETTERS) return false;
            for (int k = 0; k < KEYS.length; k++) {
                if (number == KEYS[k]) return false;
            }
            return true;
        }

        private boolean isN(int low, int high) {
            return sort == DIGITS && size <= DIGITS_MOST && number >= low && number <= high;
        }

        private boolean skipSign(int sign) {
            return isSign(sign) ? next() : wrong(1);
        }

        private boolean skipKey(int key) {
            return isKey(key) ? next() : wrong(1);
        }

        // -- things

        private boolean oneThing() {
            int kind = kindOfKey();
            if (kind == 0) return wrong(1);
            next();
            if (!newName(kind)) return false;
            if (kind == STREAM && !ends()) return false;
            if (!skipSign('=')) return false;
            boolean right;
            switch (kind) {
                case STORE:
                case NUMBER: right = first(0, N_MOST); break;
                case DELAY: right = first(1, DELAY_MOST) && skipKey(KEY_OF) && joins(0, 0); break;
                case TABLE: right = allCorners(); break;
                default: right = joins(0, 0);
            }
            if (right) text.close();
            return right;
        }

        private int kindOfKey() {
            if (isKey(KEY_STORE)) return STORE;
            if (isKey(KEY_DELAY)) return DELAY;
            if (isKey(KEY_STREAM)) return STREAM;
            if (isKey(KEY_TABLE)) return TABLE;
            if (isKey(KEY_NUMBER)) return NUMBER;
            return isKey(KEY_HELPER) ? HELPER : 0;
        }

        private boolean newName(int kind) {
            if (!isName()) return wrong(1);
            if (text.find(number) >= 0) return wrong(2);
            text.open(kind, number);
            return next();
        }

        private boolean ends() {
            return skipKey(KEY_FROM) && end(text.froms) && skipKey(KEY_TO) && end(text.tos);
        }

        private boolean end(int[] side) {
            if (isKey(KEY_OUT)) {
                side[text.count] = OUT;
                return next();
            }
            if (!isName()) return wrong(1);
            int i = text.find(number);
            if (i < 0) return wrong(2);
            if (text.kinds[i] != STORE) return wrong(3);
            side[text.count] = i;
            return next();
        }

        private boolean first(int low, int high) {
            if (!isN(low, high)) return wrong(1);
            text.firsts[text.count] = number;
            return next();
        }

        private boolean allCorners() {
            for (int k = 0; k < CORNERS_MOST; k++) {
                if (!corner(k)) return false;
                text.corners[text.count] = k + 1;
                if (!isSign(',')) return k > 0 || wrong(1);
                if (k == CORNERS_MOST - 1) return wrong(1);
                next();
            }
            return true;
        }

        private boolean corner(int k) {
            int slot = text.count * CORNERS_MOST + k;
            if (!isN(0, N_MOST)) return wrong(1);
            if (k > 0 && number <= text.cornerAts[slot - 1]) return wrong(3);
            text.cornerAts[slot] = number;
            next();
            if (!skipSign(':')) return false;
            if (!isN(0, N_MOST)) return wrong(1);
            text.cornerValues[slot] = number;
            return next();
        }

        // -- E; open tells how many of - ( [ least are open around

        /** An E (level 0), a SUM (1) or a TERM (2): parts of the next level with the level's signs between. */
        private boolean joins(int level, int open) {
            if (level > LEVEL_LAST) return one(open);
            if (!joins(level + 1, open)) return false;
            int most = level == 0 ? 1 : TAPE_MOST;
            for (int k = 0; k < most; k++) {
                int mark = markAt(level);
                if (mark == 0) return true;
                next();
                if (!joins(level + 1, open)) return false;
                text.addCode(mark, 0);
            }
            return true;
        }

        private int markAt(int level) {
            if (level == 0) return isSign('<') ? LESS : isSign('=') ? SAME : 0;
            if (level == 1) return isSign('+') ? PLUS : isSign('-') ? MINUS : 0;
            return isSign('*') ? TIMES : isSign('/') ? PARTS : 0;
        }

        private boolean one(int open) {
            if (isN(0, N_MOST)) return text.addCode(PUSH, number) && next();
            if (isName()) return name(open);
            boolean opens = isSign('-') || isSign('(') || isKey(KEY_LEAST);
            if (!opens || open >= OPEN_MOST) return wrong(1);
            if (isSign('-')) return next() && one(open + 1) && text.addCode(TURN, 0);
            if (isSign('(')) return next() && joins(0, open + 1) && skipSign(')');
            return next() && skipSign('(') && joins(0, open + 1) && skipSign(',') && joins(0, open + 1)
                && skipSign(')') && text.addCode(LEAST, 0);
        }

        private boolean name(int open) {
            int i = text.find(number);
            if (i < 0) return wrong(2);
            text.moved[i] |= 1 << text.count;
            next();
            if (text.kinds[i] != TABLE) return text.addCode(NAMED, i);
            if (!isSign('[') || open >= OPEN_MOST) return wrong(1);
            return next() && joins(0, open + 1) && skipSign(']') && text.addCode(LOOK, i);
        }
    }

    /** A world at a step: what is held, what is worked out of it, and the EVENTS. */
    private static final class World {
        int step = 0;
        long spilled = 0;
        long came = 0;
        long went = 0;
        int eventCount = 0;
        final int[] eventSteps = new int[EVENTS_MOST];
        final int[] eventThings = new int[EVENTS_MOST];
        final int[] eventValues = new int[EVENTS_MOST];
        final int[] held = new int[THINGS_MOST];
        final int[] values = new int[THINGS_MOST];
        final int[] flows = new int[THINGS_MOST];
        private final int[] delayed = new int[THINGS_MOST];
        private final int[] memory = new int[THINGS_MOST * DELAY_MOST];
        private final long[] levels = new long[THINGS_MOST];
        private final int[] stack = new int[STACK_MOST];

        void take(World other) {
            step = other.step;
            spilled = other.spilled;
            came = other.came;
            went = other.went;
            eventCount = other.eventCount;
            System.arraycopy(other.eventSteps, 0, eventSteps, 0, EVENTS_MOST);
            System.arraycopy(other.eventThings, 0, eventThings, 0, EVENTS_MOST);
            System.arraycopy(other.eventValues, 0, eventValues, 0, EVENTS_MOST);
            System.arraycopy(other.held, 0, held, 0, THINGS_MOST);
            System.arraycopy(other.values, 0, values, 0, THINGS_MOST);
            System.arraycopy(other.flows, 0, flows, 0, THINGS_MOST);
            System.arraycopy(other.delayed, 0, delayed, 0, THINGS_MOST);
            System.arraycopy(other.memory, 0, memory, 0, memory.length);
        }

        /** All begins; the memory of DELAYS may stay, for it isn't asked ahead of their N. */
        void restart(Text text) {
            step = 0;
            spilled = 0;
            came = 0;
            went = 0;
            System.arraycopy(text.firsts, 0, held, 0, THINGS_MOST);
            workOut(text);
        }

        void hold(Text text, int number, int v) {
            held[number] = v;
            workOut(text);
        }

        long stored(Text text) {
            long all = 0;
            for (int i = 0; i < text.count; i++) {
                if (text.kinds[i] == STORE) all += held[i];
            }
            return all;
        }

        /** One STEP; whether it changes a STORE. */
        boolean advance(Text text) {
            remember(text);
            boolean changes = pour(text);
            step++;
            for (int k = 0; k < eventCount; k++) {
                if (eventSteps[k] == step) held[eventThings[k]] = eventValues[k];
            }
            workOut(text);
            return changes;
        }

        private void remember(Text text) {
            for (int i = 0; i < text.count; i++) {
                if (text.kinds[i] == DELAY) memory[memorySlot(text, i)] = delayed[i];
            }
        }

        /** A DELAY of N needs the latest N: this step's takes the place of that of N steps ahead. */
        private int memorySlot(Text text, int delay) {
            int n = text.firsts[delay];
            return delay * DELAY_MOST + (n > 0 && n <= DELAY_MOST ? step % n : 0);
        }

        private boolean pour(Text text) {
            for (int i = 0; i < text.count; i++) levels[i] = held[i];
            for (int i = 0; i < text.count; i++) {
                if (text.kinds[i] == STREAM) pourOne(text, i);
            }
            boolean changes = false;
            for (int i = 0; i < text.count; i++) {
                if (text.kinds[i] != STORE) continue;
                if (levels[i] > HOLD_MOST) {
                    spilled += levels[i] - HOLD_MOST;
                    levels[i] = HOLD_MOST;
                }
                changes = changes || levels[i] != held[i];
                held[i] = (int) levels[i];
            }
            return changes;
        }

        private void pourOne(Text text, int stream) {
            int from = text.froms[stream];
            int to = text.tos[stream];
            if (text.has(from)) levels[from] -= flows[stream];
            else came += flows[stream];
            if (text.has(to)) levels[to] += flows[stream];
            else went += flows[stream];
        }

        /** All VALUES and FLOWS of this step: E names only THINGS ahead, so that one round is enough. */
        private void workOut(Text text) {
            for (int i = 0; i < text.count; i++) {
                switch (text.kinds[i]) {
                    case STORE:
                    case NUMBER:
                        values[i] = held[i];
                        break;
                    case DELAY:
                        delayed[i] = worked(text, i);
                        values[i] = step < text.firsts[i] ? 0 : memory[memorySlot(text, i)];
                        break;
                    case STREAM:
                        values[i] = Math.max(0, worked(text, i));
                        break;
                    case HELPER:
                        values[i] = worked(text, i);
                        break;
                    default:
                        values[i] = 0;
                }
            }
            share(text);
        }

        /** FLOWS: where more is asked of a STORE than it holds, each STREAM from it gets its share. */
        private void share(Text text) {
            Arrays.fill(levels, 0);
            for (int i = 0; i < text.count; i++) {
                if (text.kinds[i] == STREAM && text.has(text.froms[i])) levels[text.froms[i]] += values[i];
            }
            for (int i = 0; i < text.count; i++) {
                flows[i] = 0;
                if (text.kinds[i] == STREAM) flows[i] = shareOf(text.froms[i], values[i], text);
            }
        }

        private int shareOf(int from, int wants, Text text) {
            if (!text.has(from) || levels[from] <= held[from] || levels[from] <= 0) return wants;
            return (int) ((long) wants * held[from] / levels[from]);
        }

        private int worked(Text text, int thing) {
            int top = 0;
            for (int k = text.codeFroms[thing]; k < text.codeTos[thing]; k++) {
                int mark = text.code[k] & 15;
                int about = text.code[k] >> 4;
                if (mark <= NAMED) {
                    if (top >= STACK_MOST) return 0;
                    stack[top] = mark == PUSH ? about : values[about];
                    top++;
                } else if (mark <= LOOK) {
                    if (top < 1) return 0;
                    stack[top - 1] = mark == TURN ? -stack[top - 1] : text.look(about, stack[top - 1]);
                } else {
                    if (top < 2) return 0;
                    top--;
                    stack[top - 1] = joined(mark, stack[top - 1], stack[top]);
                }
            }
            return top < 1 ? 0 : stack[0];
        }

        private static int joined(int mark, int left, int right) {
            switch (mark) {
                case PLUS: return left + right;
                case MINUS: return left - right;
                case TIMES: return left * right;
                case PARTS: return right == 0 ? 0 : left / right;
                case LESS: return left < right ? 1 : 0;
                case SAME: return left == right ? 1 : 0;
                default: return Math.min(left, right);
            }
        }
    }

    /** An ACT that is done: of which THING, and THE TRACE of the bodies that ran. */
    private static final class Doing {
        int number = 0;
        int letters = 0;
        boolean isParted = false;
        int count = 0;
        final int[] bodies = new int[TRACE_MOST];

        void clear() {
            isParted = false;
            count = 0;
        }

        /** Behind a parting by 0 nothing runs any more, so that nothing is traced. */
        void begins(int body) {
            if (isParted || count >= TRACE_MOST) return;
            bodies[count] = body;
            count++;
        }
    }

    /** The KINDS of things with their BODIES; which thing acts stands in the Doing. */
    private static class Thing {
        int reads(Doing doing, int x) {
            doing.begins(10);
            return x + doing.number;
        }

        int steps(Doing doing, int x) {
            doing.begins(11);
            return reads(doing, x) * 2;
        }

        int units(Doing doing, int x) {
            doing.begins(12);
            int by = doing.letters - doing.number;
            if (by == 0) {
                doing.isParted = true;
                return 0;
            }
            return x / by;
        }

        int tells(Doing doing, int x) {
            doing.begins(13);
            return steps(doing, x) ^ doing.letters;
        }
    }

    private static class Store extends Thing {
        int steps(Doing doing, int x) {
            doing.begins(20);
            return super.steps(doing, x) - doing.letters;
        }
    }

    private static final class Delay extends Store {
        int reads(Doing doing, int x) {
            doing.begins(30);
            return super.reads(doing, x) * 3;
        }

        int tells(Doing doing, int x) {
            doing.begins(31);
            return super.tells(doing, x) + units(doing, doing.number);
        }
    }

    private static class Stream extends Thing {
        int units(Doing doing, int x) {
            doing.begins(40);
            return super.units(doing, x + 2) ^ 1;
        }
    }

    private static final class Table extends Stream {
        int reads(Doing doing, int x) {
            doing.begins(50);
            return 0 - super.reads(doing, x);
        }

        int units(Doing doing, int x) {
            doing.begins(51);
            return super.units(doing, x) + reads(doing, doing.number);
        }
    }

    private static class Held extends Thing {
        int reads(Doing doing, int x) {
            doing.begins(60);
            return super.reads(doing, x) - 4;
        }
    }

    private static final class Helper extends Held {
        int steps(Doing doing, int x) {
            doing.begins(70);
            return super.steps(doing, x) + units(doing, doing.letters);
        }

        int tells(Doing doing, int x) {
            doing.begins(71);
            return super.tells(doing, x) * 2;
        }
    }
}

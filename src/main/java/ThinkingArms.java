import java.util.Arrays;

/** Arms of pieces that think, each by a rule of its own; the document's promises name each call. */
public final class ThinkingArms {
    public static final int BAD = -1, NOT = -2, FULL = -3, NONE = -4, NULL = -11, CAST = -12, INDEX = -13, SIZE = -14;

    private static final int CELLS = 64;
    private static final int MOST_ARMS = 3;
    private static final int MOST_PIECES = 7;
    private static final int MOST_THINGS = 8;
    private static final int MOST_BYTES = 100;
    private static final int MOST_CLAUSES = 6;
    private static final int MOST_ACTS = 4;
    private static final int MOST_OPEN = 4;
    private static final int MOST_WORDS = 4;
    private static final int TICKS_A_WORD = 2;
    private static final int FIRST_FAULT = -20;

    private static final int LYING = 0, HELD = 1, EATEN = 2;
    private static final int BOOLEANS = 0, BYTES = 1, INTS = 2;

    /** What a side adds to a cell, where it does not lead out of the sea. */
    private static final int[] STEP = {1, 8, -1, -8};
    private static final long ALL_BUT_EAST_EDGE = 0x7F7F7F7F7F7F7F7FL;
    private static final long ALL_BUT_WEST_EDGE = 0xFEFEFEFEFEFEFEFEL;

    /** What a piece senses, as bits: a word or a taste or a memory is its first bit shifted by the digit. */
    private static final int WORD_BIT = 1, TASTE_BIT = 1 << 4, MEMORY_BIT = 1 << 8;
    private static final int HOLDS_BIT = 1 << 12, TIP_BIT = 1 << 13, ALWAYS_BIT = 1 << 14;

    private final Sea sea = new Sea();
    private final Sea[] images = new Sea[2];
    private final Sheet[] sheets = new Sheet[4];
    private final byte[] tape = new byte[MOST_BYTES];
    private int typed;
    private final RuleReader reader = new RuleReader();
    private final Reaching reaching = new Reaching();
    private final WordSearch words = new WordSearch();
    private final int[] path = new int[MOST_PIECES];

    public ThinkingArms() {
        for (int s = 0; s < sheets.length; s++) {
            sheets[s] = new Sheet();
        }
    }

    // ---- 1 the sea, arms, things

    public int wall(int x, int y, boolean is) {
        if (!isCell(x, y)) {
            return BAD;
        }
        long here = 1L << cellOf(x, y);
        if (is && (sea.inUse() & here) != 0) {
            return NOT;
        }
        boolean was = (sea.walls & here) != 0;
        sea.walls = is ? sea.walls | here : sea.walls & ~here;
        return was ? 1 : 0;
    }

    public int walls(int sheet) {
        if (!isSheet(sheet)) {
            return BAD;
        }
        int refused = sheets[sheet].refuses(BOOLEANS, 0, CELLS);
        if (refused != 0) {
            return refused;
        }
        long asked = sheets[sheet].asCells();
        if ((sea.inUse() & asked) != 0) {
            return NOT;
        }
        sea.walls = asked;
        return Long.bitCount(asked);
    }

    public int arm(int x, int y, int pieces, int form) {
        if (!isCell(x, y) || pieces < 2 || pieces > MOST_PIECES || form < 0 || form >= formsOf(pieces)) {
            return BAD;
        }
        if (!sea.canLie(cellOf(x, y), pieces, form, path)) {
            return NOT;
        }
        if (sea.armCount >= MOST_ARMS) {
            return FULL;
        }
        sea.addArm(path, pieces);
        return sea.armCount - 1;
    }

    public int thing(int x, int y, int taste) {
        if (!isCell(x, y) || !isDigit(taste)) {
            return BAD;
        }
        int cell = cellOf(x, y);
        if (((sea.walls | sea.lyingCells()) & 1L << cell) != 0) {
            return NOT;
        }
        if (sea.thingCount >= MOST_THINGS) {
            return FULL;
        }
        sea.addThing(cell, taste);
        return sea.thingCount - 1;
    }

    public int piece(int arm, int piece, int what) {
        if (!isPiece(arm, piece)) {
            return BAD;
        }
        Arm asked = sea.arms[arm];
        switch (what) {
            case 0: return asked.cell[piece];
            case 1: return asked.memory[piece];
            case 2: return asked.holds[piece];
            case 3: return asked.said[piece];
            case 4: return asked.isCutOff(piece) ? 1 : 0;
            case 5: return asked.isTip(piece) ? 1 : 0;
            default: return BAD;
        }
    }

    public int told(int thing, int what) {
        if (!isThing(thing)) {
            return BAD;
        }
        Thing asked = sea.things[thing];
        switch (what) {
            case 0: return asked.how;
            case 1: return sea.cellOfThing(asked);
            case 2: return asked.taste;
            case 3: return asked.how == LYING ? NONE : 10 * asked.arm + asked.piece;
            default: return BAD;
        }
    }

    public int form(int arm) {
        if (!isArm(arm)) {
            return BAD;
        }
        return sea.arms[arm].isCut() ? NOT : sea.arms[arm].formNow();
    }

    public int flip(int arm, int piece) {
        if (!isPiece(arm, piece) || !sea.arms[arm].canEverMove(piece)) {
            return BAD;
        }
        return sea.move(sea.arms[arm], piece) ? sea.arms[arm].cell[piece] : NOT;
    }

    // ---- 2 rules, ticks

    public int type(long w, int n) {
        if (n < 1 || n > 8) {
            return BAD;
        }
        for (int k = 0; k < n; k++) {
            int b = byteOf(w, k);
            if (b < 32 || b > 126) {
                return BAD;
            }
        }
        if (typed + n > MOST_BYTES) {
            return FULL;
        }
        for (int k = n - 1; k >= 0; k--) {
            tape[typed] = (byte) byteOf(w, k);
            typed++;
        }
        return typed;
    }

    public int rules(int arm) {
        if (!isArm(arm)) {
            return BAD;
        }
        Rules read = reader.read(tape, typed);
        typed = 0;
        if (read == null) {
            return FIRST_FAULT - reader.fault;
        }
        sea.arms[arm].rules = read;
        return read.count;
    }

    public int head(int arm, int word) {
        if (!isArm(arm) || !isDigit(word)) {
            return BAD;
        }
        int was = sea.arms[arm].headWord;
        sea.arms[arm].headWord = word;
        return was;
    }

    public int skin(int taste) {
        if (!isDigit(taste)) {
            return BAD;
        }
        int was = sea.skinTaste;
        sea.skinTaste = taste;
        return was;
    }

    public int ticks(int n) {
        if (n < 1 || n > 60) {
            return BAD;
        }
        for (int t = 0; t < n; t++) {
            sea.tick();
        }
        return sea.countThings(EATEN);
    }

    public int finds(int arm, int piece) {
        if (!isPiece(arm, piece) || piece == 0) {
            return BAD;
        }
        return sea.clauseFor(sea.arms[arm], piece);
    }

    public int cut(int arm, int piece) {
        if (!isPiece(arm, piece) || piece == 0) {
            return BAD;
        }
        Arm asked = sea.arms[arm];
        if (asked.isCut()) {
            return NOT;
        }
        asked.firstCut = piece;
        return asked.size - piece;
    }

    public int count(int what) {
        switch (what) {
            case 0: return sea.armCount;
            case 1: return sea.thingCount;
            case 2: return sea.countThings(LYING);
            case 3: return sea.countThings(HELD);
            case 4: return sea.countThings(EATEN);
            case 5: return Long.bitCount(sea.walls);
            case 6: return sea.ticksDone;
            default: return BAD;
        }
    }

    // ---- 3 reach, words

    public int forms(int arm) {
        int refused = refusesReach(arm);
        return refused != 0 ? refused : reaching.formCount;
    }

    public int reach(int arm) {
        int refused = refusesReach(arm);
        return refused != 0 ? refused : reaching.cellCount;
    }

    public int far(int arm, int x, int y) {
        if (!isCell(x, y)) {
            return BAD;
        }
        int refused = refusesReach(arm);
        return refused != 0 ? refused : reaching.movesToCell[cellOf(x, y)];
    }

    public int fewest(int arm, int thing, int n, int what) {
        if (!isArm(arm) || !isThing(thing) || n < 1 || n > 20 || what < 0 || what > MOST_WORDS) {
            return BAD;
        }
        if (sea.things[thing].how == EATEN) {
            return NOT;
        }
        int found = words.search(sea, arm, thing, n);
        if (found == 0) {
            return NONE;
        }
        if (what == 0) {
            return found;
        }
        return what <= found ? words.row[what - 1] : BAD;
    }

    public int image(int n) {
        if (!isImage(n)) {
            return BAD;
        }
        if (images[n] == null) {
            images[n] = new Sea();
        }
        images[n].become(sea);
        return 1;
    }

    public int restore(int n) {
        if (!isImage(n)) {
            return BAD;
        }
        if (images[n] == null) {
            return NONE;
        }
        sea.become(images[n]);
        return 1;
    }

    public int film(int arm, int sheet, int lane, int i) {
        int refused = refusesFilm(arm, sheet, lane, i);
        if (refused != 0) {
            return refused;
        }
        Arm asked = sea.arms[arm];
        for (int k = 0; k < asked.size; k++) {
            sheets[sheet].items[i + k] = asked.cell[k];
        }
        return asked.size;
    }

    public int differs(int arm, int sheet, int lane, int i) {
        int refused = refusesFilm(arm, sheet, lane, i);
        if (refused != 0) {
            return refused;
        }
        Arm asked = sea.arms[arm];
        for (int k = 0; k < asked.size; k++) {
            if (sheets[sheet].items[i + k] != asked.cell[k]) {
                return k;
            }
        }
        return NONE;
    }

    // ---- 4 sheets

    public int sheet(int sheet, int lane, int n) {
        if (!isSheet(sheet) || !isLane(lane) || n > Sheet.MOST_ITEMS) {
            return BAD;
        }
        if (n < 0) {
            return SIZE;
        }
        sheets[sheet].begin(lane, n);
        return n;
    }

    public int drop(int sheet) {
        if (!isSheet(sheet)) {
            return BAD;
        }
        if (sheets[sheet].holdsNothing()) {
            return NULL;
        }
        int had = sheets[sheet].length;
        sheets[sheet].forget();
        return had;
    }

    public int item(int sheet, int lane, int i, int v) {
        if (!isSheet(sheet) || !isLane(lane)) {
            return BAD;
        }
        int refused = sheets[sheet].refuses(lane, i, 1);
        if (refused != 0) {
            return refused;
        }
        sheets[sheet].items[i] = narrowed(lane, v);
        return 1;
    }

    public int copy(int from, int i, int to, int j, int n) {
        if (!isSheet(from) || !isSheet(to)) {
            return BAD;
        }
        Sheet source = sheets[from];
        Sheet target = sheets[to];
        if (source.holdsNothing() || target.holdsNothing()) {
            return NULL;
        }
        if (source.lane != target.lane) {
            return CAST;
        }
        if (!source.spans(i, n) || !target.spans(j, n)) {
            return INDEX;
        }
        System.arraycopy(source.items, i, target.items, j, n);
        return n;
    }

    // ---- what the calls ask of their numbers

    private static boolean isCell(int x, int y) {
        return x >= 0 && x < 8 && y >= 0 && y < 8;
    }

    /** Words, tastes and memories are all told by a digit 0 .. 3. */
    private static boolean isDigit(int v) {
        return v >= 0 && v <= 3;
    }

    private static boolean isLane(int lane) {
        return lane >= BOOLEANS && lane <= INTS;
    }

    private boolean isArm(int arm) {
        return arm >= 0 && arm < sea.armCount;
    }

    private boolean isPiece(int arm, int piece) {
        return isArm(arm) && piece >= 0 && piece < sea.arms[arm].size;
    }

    private boolean isThing(int thing) {
        return thing >= 0 && thing < sea.thingCount;
    }

    private boolean isSheet(int sheet) {
        return sheet >= 0 && sheet < sheets.length;
    }

    private boolean isImage(int n) {
        return n >= 0 && n < images.length;
    }

    /** The answer below 0 that forms, reach and far share, or 0, and then the search has been made. */
    private int refusesReach(int arm) {
        if (!isArm(arm)) {
            return BAD;
        }
        if (sea.arms[arm].isCut()) {
            return NOT;
        }
        reaching.search(sea, sea.arms[arm]);
        return 0;
    }

    private int refusesFilm(int arm, int sheet, int lane, int i) {
        if (!isArm(arm) || !isSheet(sheet) || lane != BYTES && lane != INTS) {
            return BAD;
        }
        return sheets[sheet].refuses(lane, i, sea.arms[arm].size);
    }

    private static int cellOf(int x, int y) {
        return 8 * y + x;
    }

    private static int formsOf(int pieces) {
        return 1 << 2 * (pieces - 1);
    }

    private static int byteOf(long w, int k) {
        return (int) (w >>> 8 * k) & 255;
    }

    private static int narrowed(int lane, int v) {
        if (lane == BOOLEANS) {
            return v != 0 ? 1 : 0;
        }
        return lane == BYTES ? (byte) v : v;
    }

    /** The cell to a side, or NONE where the sea ends. */
    private static int beside(int cell, int side) {
        int x = cell & 7;
        int y = cell >> 3;
        boolean inside = side == 0 ? x < 7 : side == 1 ? y < 7 : side == 2 ? x > 0 : y > 0;
        return inside ? cell + STEP[side & 3] : NONE;
    }

    /** At which side of a cell the other one, which touches it by an edge, is. */
    private static int sideOf(int cell, int other) {
        switch (other - cell) {
            case 1: return 0;
            case 8: return 1;
            case -1: return 2;
            default: return 3;
        }
    }

    /** The cell and those to its sides, as bits. */
    private static long near(int cell) {
        long here = 1L << cell;
        long eastWest = (here & ALL_BUT_EAST_EDGE) << 1 | (here & ALL_BUT_WEST_EDGE) >>> 1;
        return here | here << 8 | here >>> 8 | eastWest;
    }

    private static boolean touchByCorner(int a, int b) {
        int dx = (a & 7) - (b & 7);
        int dy = (a >> 3) - (b >> 3);
        return dx * dx == 1 && dy * dy == 1;
    }

    /** All that an image keeps. Cells are kept as bits where many are asked for at once. */
    private static final class Sea {
        private long walls;
        private long taken;
        private final long[] lyingOfTaste = new long[4];
        private final Arm[] arms = new Arm[MOST_ARMS];
        private int armCount;
        private final Thing[] things = new Thing[MOST_THINGS];
        private int thingCount;
        private int skinTaste = 3;
        private int ticksDone;

        Sea() {
            for (int a = 0; a < arms.length; a++) {
                arms[a] = new Arm();
            }
            for (int t = 0; t < things.length; t++) {
                things[t] = new Thing();
            }
        }

        void become(Sea other) {
            walls = other.walls;
            taken = other.taken;
            System.arraycopy(other.lyingOfTaste, 0, lyingOfTaste, 0, lyingOfTaste.length);
            armCount = other.armCount;
            for (int a = 0; a < armCount; a++) {
                arms[a].become(other.arms[a]);
            }
            thingCount = other.thingCount;
            for (int t = 0; t < thingCount; t++) {
                things[t].become(other.things[t]);
            }
            skinTaste = other.skinTaste;
            ticksDone = other.ticksDone;
        }

        long lyingCells() {
            return lyingOfTaste[0] | lyingOfTaste[1] | lyingOfTaste[2] | lyingOfTaste[3];
        }

        /** Cells that can't become walls. */
        long inUse() {
            return taken | lyingCells();
        }

        boolean isFree(int cell) {
            return cell >= 0 && ((walls | taken) & 1L << cell) == 0;
        }

        /** Whether an arm can lie so; then its cells stand in the path. */
        boolean canLie(int first, int pieces, int form, int[] path) {
            long own = 0;
            int cell = first;
            for (int k = 0; k < pieces; k++) {
                if (k > 0) {
                    cell = beside(cell, form >> 2 * (k - 1) & 3);
                }
                if (!isFree(cell) || (own & 1L << cell) != 0) {
                    return false;
                }
                own |= 1L << cell;
                path[k] = cell;
            }
            return true;
        }

        void addArm(int[] path, int pieces) {
            arms[armCount].begin(path, pieces);
            armCount++;
            for (int k = 0; k < pieces; k++) {
                taken |= 1L << path[k];
            }
        }

        void addThing(int cell, int taste) {
            things[thingCount].taste = taste;
            lay(thingCount, cell);
            thingCount++;
        }

        int countThings(int how) {
            int count = 0;
            for (int t = 0; t < thingCount; t++) {
                if (things[t].how == how) {
                    count++;
                }
            }
            return count;
        }

        int cellOfThing(Thing thing) {
            if (thing.how == EATEN) {
                return NONE;
            }
            return thing.how == LYING ? thing.cell : arms[thing.arm].cell[thing.piece];
        }

        private void lay(int thing, int cell) {
            things[thing].how = LYING;
            things[thing].cell = cell;
            lyingOfTaste[things[thing].taste] |= 1L << cell;
        }

        private void lift(int thing) {
            lyingOfTaste[things[thing].taste] &= ~(1L << things[thing].cell);
        }

        private int lyingAt(int cell) {
            for (int t = 0; t < thingCount; t++) {
                if (things[t].how == LYING && things[t].cell == cell) {
                    return t;
                }
            }
            return NONE;
        }

        /** A piece that can ever move flips or, if it is a tip, turns: whether it could. */
        boolean move(Arm arm, int k) {
            int to = arm.isTip(k) ? turned(arm.cell[k - 1], arm.cell[k])
                    : flipped(arm.cell[k - 1], arm.cell[k], arm.cell[k + 1]);
            if (to < 0) {
                return false;
            }
            taken = taken & ~(1L << arm.cell[k]) | 1L << to;
            arm.cell[k] = to;
            return true;
        }

        private int turned(int ahead, int tip) {
            int side = sideOf(ahead, tip);
            for (int more = 1; more <= 3; more++) {
                int to = beside(ahead, side + more & 3);
                if (isFree(to)) {
                    return to;
                }
            }
            return NONE;
        }

        private int flipped(int ahead, int cell, int behind) {
            if (!touchByCorner(ahead, behind)) {
                return NONE;
            }
            int to = ahead + behind - cell;
            return isFree(to) ? to : NONE;
        }

        void tick() {
            for (int a = 0; a < armCount; a++) {
                for (int k = 1; k < arms[a].size; k++) {
                    arms[a].found[k] = clauseFor(arms[a], k);
                }
            }
            for (int a = 0; a < armCount; a++) {
                arms[a].said[0] = arms[a].headWord;
                for (int k = 1; k < arms[a].size; k++) {
                    arms[a].said[k] = doActs(a, k);
                }
            }
            ticksDone++;
        }

        int clauseFor(Arm arm, int k) {
            return arm.rules == null ? NONE : arm.rules.firstFor(senses(arm, k));
        }

        private int senses(Arm arm, int k) {
            int bits = ALWAYS_BIT | WORD_BIT << arm.said[k - 1] | MEMORY_BIT << arm.memory[k];
            if (arm.holds[k] >= 0) {
                bits |= HOLDS_BIT;
            }
            if (arm.isTip(k)) {
                bits |= TIP_BIT;
            }
            long felt = near(arm.cell[k]);
            for (int taste = 0; taste < lyingOfTaste.length; taste++) {
                if ((lyingOfTaste[taste] & felt) != 0) {
                    bits |= TASTE_BIT << taste;
                }
            }
            return bits;
        }

        /** A piece does the acts of the clause that it found: the word it says. */
        private int doActs(int a, int k) {
            Arm arm = arms[a];
            int found = arm.found[k];
            if (found < 0 || arm.rules == null || k == arm.firstCut) {
                return 0;
            }
            Clause clause = arm.rules.clauses[found];
            int word = 0;
            for (int i = 0; i < clause.actCount; i++) {
                int digit = clause.digits[i];
                switch (clause.acts[i]) {
                    case 'f': move(arm, k); break;
                    case 'g': grab(a, k); break;
                    case 'p': passOn(a, k); break;
                    case 'd': letGo(arm, k); break;
                    case 's': arm.memory[k] = digit; break;
                    default: word = digit; break;
                }
            }
            return word;
        }

        private void grab(int a, int k) {
            int here = arms[a].cell[k];
            for (int side = -1; side < 4 && arms[a].holds[k] < 0; side++) {
                int thing = lyingAt(side < 0 ? here : beside(here, side));
                if (thing >= 0 && things[thing].taste != skinTaste) {
                    lift(thing);
                    give(thing, a, k);
                }
            }
        }

        private void give(int thing, int a, int k) {
            arms[a].holds[k] = thing;
            things[thing].how = HELD;
            things[thing].arm = a;
            things[thing].piece = k;
        }

        private void passOn(int a, int k) {
            Arm arm = arms[a];
            int thing = arm.holds[k];
            int ahead = k - 1;
            if (thing < 0 || ahead > 0 && (ahead == arm.firstCut || arm.holds[ahead] >= 0)) {
                return;
            }
            arm.holds[k] = NONE;
            if (ahead > 0) {
                give(thing, a, ahead);
            } else {
                things[thing].how = EATEN;
                things[thing].piece = 0;
            }
        }

        private void letGo(Arm arm, int k) {
            int thing = arm.holds[k];
            if (thing >= 0 && (lyingCells() & 1L << arm.cell[k]) == 0) {
                arm.holds[k] = NONE;
                lay(thing, arm.cell[k]);
            }
        }
    }

    private static final class Arm {
        private int size;
        /** 0 while the arm is not cut, as it can't be at piece 0. */
        private int firstCut;
        private int headWord;
        /** Never changed once read, so that images may share it; null: none yet. */
        private Rules rules;
        private final int[] cell = new int[MOST_PIECES];
        private final int[] memory = new int[MOST_PIECES];
        private final int[] holds = new int[MOST_PIECES];
        private final int[] said = new int[MOST_PIECES];
        /** Lives within one tick only, so that it is not copied. */
        private final int[] found = new int[MOST_PIECES];

        /** All is set, as a slot may have been in use ahead of a restore. */
        void begin(int[] path, int pieces) {
            size = pieces;
            firstCut = 0;
            headWord = 0;
            rules = null;
            System.arraycopy(path, 0, cell, 0, pieces);
            Arrays.fill(memory, 0);
            Arrays.fill(holds, NONE);
            Arrays.fill(said, 0);
        }

        void become(Arm other) {
            size = other.size;
            firstCut = other.firstCut;
            headWord = other.headWord;
            rules = other.rules;
            System.arraycopy(other.cell, 0, cell, 0, size);
            System.arraycopy(other.memory, 0, memory, 0, size);
            System.arraycopy(other.holds, 0, holds, 0, size);
            System.arraycopy(other.said, 0, said, 0, size);
        }

        boolean isCut() {
            return firstCut > 0;
        }

        boolean isCutOff(int k) {
            return isCut() && k >= firstCut;
        }

        boolean isTip(int k) {
            return k == size - 1 || k == firstCut - 1;
        }

        boolean canEverMove(int k) {
            return k > 0 && k != firstCut;
        }

        int formNow() {
            int form = 0;
            for (int k = 1; k < size; k++) {
                form |= sideOf(cell[k - 1], cell[k]) << 2 * (k - 1);
            }
            return form;
        }
    }

    private static final class Thing {
        private int taste;
        private int how;
        /** Where it lies, if it does; else arm and piece tell who holds it or ate it. */
        private int cell;
        private int arm;
        private int piece;

        void become(Thing other) {
            taste = other.taste;
            how = other.how;
            cell = other.cell;
            arm = other.arm;
            piece = other.piece;
        }
    }

    private static final class Rules {
        private final Clause[] clauses = new Clause[MOST_CLAUSES];
        private int count;

        int firstFor(int senses) {
            for (int c = 0; c < count; c++) {
                if (Claim.holds(clauses[c].test, senses, 0)) {
                    return c;
                }
            }
            return NONE;
        }
    }

    private static final class Clause {
        private Claim test;
        private final int[] acts = new int[MOST_ACTS];
        private final int[] digits = new int[MOST_ACTS];
        private int actCount;
    }

    /** A test is the chain of its claims; a claim behind | begins a case. */
    private static final class Claim {
        private boolean beginsCase;
        private boolean not;
        private int bit;
        /** The test in ( ), or null: then the bit is asked for. */
        private Claim inside;
        private Claim next;

        private static boolean holds(Claim test, int senses, int open) {
            if (open > MOST_OPEN) {
                return false;
            }
            boolean all = true;
            for (Claim c = test; c != null; c = c.next) {
                if (c.beginsCase) {
                    if (all) {
                        return true;
                    }
                    all = true;
                }
                if (all) {
                    boolean is = c.inside == null ? (senses & c.bit) != 0 : holds(c.inside, senses, open + 1);
                    all = is != c.not;
                }
            }
            return all;
        }
    }

    /** Reads a text of rules. From a fault on it is as if the text had ended, so that all readers end. */
    private static final class RuleReader {
        private static final int END = -1;
        private static final int NO_FAULT = -1;

        private byte[] text;
        private int length;
        private int at;
        /** The byte at that place, which is never a blank, or END. */
        private int sign;
        private int fault;

        /** The rules, or null: then the fault tells the place of the byte that can't stand there. */
        Rules read(byte[] bytes, int count) {
            text = bytes;
            length = count;
            fault = NO_FAULT;
            goTo(0);
            Rules rules = new Rules();
            do {
                rules.clauses[rules.count] = readClause();
                rules.count++;
            } while (rules.count < MOST_CLAUSES && takes(';'));
            if (sign != END) {
                fail();
            }
            return fault == NO_FAULT ? rules : null;
        }

        private Clause readClause() {
            Clause clause = new Clause();
            clause.test = readTest(0);
            need(':');
            readAct(clause);
            for (int acts = 1; acts < MOST_ACTS && isAct(sign); acts++) {
                readAct(clause);
            }
            return clause;
        }

        private void readAct(Clause clause) {
            int letter = sign;
            if (!isAct(letter)) {
                fail();
                return;
            }
            goTo(at + 1);
            clause.acts[clause.actCount] = letter;
            if (letter == 's' || letter == 'o') {
                clause.digits[clause.actCount] = readDigit();
            }
            clause.actCount++;
        }

        private Claim readTest(int open) {
            Claim first = readClaim(open);
            Claim last = first;
            for (int k = 0; k < MOST_BYTES; k++) {
                boolean or = takes('|');
                if (!or && !takes('&')) {
                    return first;
                }
                last.next = readClaim(open);
                last = last.next;
                last.beginsCase = or;
            }
            return first;
        }

        private Claim readClaim(int open) {
            Claim claim = new Claim();
            claim.not = takes('!');
            if (open < MOST_OPEN && takes('(')) {
                claim.inside = readTest(open + 1);
                need(')');
            } else {
                claim.bit = readSense();
            }
            return claim;
        }

        private int readSense() {
            if (takes('w')) {
                return WORD_BIT << readDigit();
            }
            if (takes('t')) {
                return TASTE_BIT << readDigit();
            }
            if (takes('m')) {
                return MEMORY_BIT << readDigit();
            }
            if (takes('h')) {
                return HOLDS_BIT;
            }
            if (takes('x')) {
                return TIP_BIT;
            }
            need('*');
            return ALWAYS_BIT;
        }

        private int readDigit() {
            int digit = sign - '0';
            if (!isDigit(digit)) {
                fail();
                return 0;
            }
            goTo(at + 1);
            return digit;
        }

        private static boolean isAct(int letter) {
            return letter == 'f' || letter == 'g' || letter == 'p' || letter == 'd' || letter == 's' || letter == 'o';
        }

        private void need(int wanted) {
            if (sign == wanted) {
                goTo(at + 1);
            } else {
                fail();
            }
        }

        private boolean takes(int wanted) {
            if (sign != wanted) {
                return false;
            }
            goTo(at + 1);
            return true;
        }

        /** To that place, or to the first behind it that has no blank. */
        private void goTo(int place) {
            at = place;
            while (at < length && text[at] == ' ') {
                at++;
            }
            sign = at < length ? text[at] : END;
        }

        private void fail() {
            if (fault == NO_FAULT) {
                fault = at;
            }
            sign = END;
        }
    }

    /** All forms that an arm can come to, found from the nearest on. */
    private static final class Reaching {
        private static final int UNSEEN = -1;

        private final int[] movesToForm = new int[1 << 2 * (MOST_PIECES - 1)];
        private final int[] seen = new int[1 << 2 * (MOST_PIECES - 1)];
        private final int[] movesToCell = new int[CELLS];
        private final int[] path = new int[MOST_PIECES];
        private int formCount;
        private int cellCount;
        /** What the latest search rests on: nothing else sways it, so it serves until one of them is another. */
        private int first;
        private int size;
        private int form;
        private long blocked;
        private long others;

        void search(Sea sea, Arm arm) {
            int formNow = arm.formNow();
            long blockedNow = sea.walls | sea.taken;
            if (first == arm.cell[0] && size == arm.size && form == formNow && blocked == blockedNow) {
                return;
            }
            first = arm.cell[0];
            size = arm.size;
            form = formNow;
            blocked = blockedNow;
            others = blocked & ~layOut(form);
            searchAnew();
        }

        private void searchAnew() {
            Arrays.fill(movesToForm, 0, formsOf(size), UNSEEN);
            Arrays.fill(movesToCell, NONE);
            formCount = 0;
            cellCount = 0;
            see(form, 0);
            for (int f = 0; f < formCount && f < seen.length; f++) {
                goOnFrom(seen[f], movesToForm[seen[f]]);
            }
        }

        private void see(int newForm, int moves) {
            if (movesToForm[newForm] == UNSEEN) {
                movesToForm[newForm] = moves;
                seen[formCount] = newForm;
                formCount++;
            }
        }

        /** Puts a form's cells into the path: the cells as bits. */
        private long layOut(int ofForm) {
            path[0] = first;
            long own = 1L << first;
            for (int k = 1; k < size; k++) {
                path[k] = path[k - 1] + STEP[ofForm >> 2 * (k - 1) & 3];
                own |= 1L << path[k];
            }
            return own;
        }

        private void goOnFrom(int from, int moves) {
            long used = others | layOut(from);
            int tip = path[size - 1];
            if (movesToCell[tip] == NONE) {
                movesToCell[tip] = moves;
                cellCount++;
            }
            for (int k = 1; k < size - 1; k++) {
                seeFlip(from, k, used, moves + 1);
            }
            seeTurns(from, used, moves + 1);
        }

        /** A flip swaps the sides by which the piece and the one behind it came, if one is east or west alone. */
        private void seeFlip(int from, int k, long used, int moves) {
            int place = 2 * (k - 1);
            int side = from >> place & 3;
            int sideBehind = from >> place + 2 & 3;
            int change = side ^ sideBehind;
            if ((change & 1) == 0) {
                return;
            }
            int to = path[k - 1] + STEP[sideBehind];
            if ((used & 1L << to) == 0) {
                see(from ^ (change << place) ^ (change << place + 2), moves);
            }
        }

        private void seeTurns(int from, long used, int moves) {
            int place = 2 * (size - 2);
            for (int side = 0; side < 4; side++) {
                int to = beside(path[size - 2], side);
                if (to >= 0 && (used & 1L << to) == 0) {
                    see(from & ~(3 << place) | side << place, moves);
                }
            }
        }
    }

    /** Tries rows of words on seas of its own, so that nothing is to be put back. */
    private static final class WordSearch {
        private final int[] row = new int[MOST_WORDS];
        /** Behind as many words as its number. */
        private final Sea[] behind = new Sea[MOST_WORDS + 1];
        private int arm;
        private int thing;
        private int within;

        WordSearch() {
            for (int s = 0; s < behind.length; s++) {
                behind[s] = new Sea();
            }
        }

        /** How many words are the fewest, which then stand in the row; 0: none do. */
        int search(Sea sea, int ofArm, int forThing, int withinTicks) {
            arm = ofArm;
            thing = forThing;
            within = withinTicks;
            behind[0].become(sea);
            for (int count = 1; count <= MOST_WORDS; count++) {
                if (isEatenBy(count, 0)) {
                    return count;
                }
            }
            return 0;
        }

        /** Whether some row of that many words, of which some are said already, has the thing eaten. */
        private boolean isEatenBy(int count, int said) {
            int left = within - TICKS_A_WORD * said;
            boolean isLast = said == count - 1;
            // with no tick left for the words to come it is a shorter row, and those have been tried
            if (said >= count || left <= 0 || !isLast && left <= TICKS_A_WORD) {
                return false;
            }
            for (int word = 0; word <= 3; word++) {
                // so it is with a last word like the one ahead of it
                if (isLast && said > 0 && word == row[said - 1]) {
                    continue;
                }
                row[said] = word;
                Sea then = behind[said + 1];
                then.become(behind[said]);
                then.arms[arm].headWord = word;
                int ticks = isLast ? left : TICKS_A_WORD;
                for (int t = 0; t < ticks && then.things[thing].how != EATEN; t++) {
                    then.tick();
                }
                if (isLast ? then.things[thing].how == EATEN : isEatenBy(count, said + 1)) {
                    return true;
                }
            }
            return false;
        }
    }

    /** A row is kept as ints whatever its lane, narrowed as they come in. */
    private static final class Sheet {
        private static final int MOST_ITEMS = 64;
        private static final int NO_LANE = -1;

        private int lane = NO_LANE;
        private int length;
        private final int[] items = new int[MOST_ITEMS];

        void begin(int newLane, int n) {
            lane = newLane;
            length = n;
            Arrays.fill(items, 0);
        }

        void forget() {
            lane = NO_LANE;
            length = 0;
        }

        boolean holdsNothing() {
            return lane == NO_LANE;
        }

        boolean spans(int from, int n) {
            return from >= 0 && n >= 0 && n <= length && from <= length - n;
        }

        /** What the machine would find when n items of a lane are asked for from one on; 0: nothing. */
        int refuses(int asLane, int from, int n) {
            if (holdsNothing()) {
                return NULL;
            }
            if (lane != asLane) {
                return CAST;
            }
            return spans(from, n) ? 0 : INDEX;
        }

        long asCells() {
            long cells = 0;
            for (int i = 0; i < CELLS; i++) {
                if (items[i] != 0) {
                    cells |= 1L << i;
                }
            }
            return cells;
        }
    }
}

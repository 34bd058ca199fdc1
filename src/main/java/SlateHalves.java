import java.util.Arrays;

/**
 * Blocks of slate that are split in halves, the hills that say what they are worth, the days that
 * dry them. What each call answers and changes stands in ../shared/DOC.md, promise by promise.
 */
public final class SlateHalves {
    public static final int NONE = -1, BAD = -2, STATE = -3, FULL = -4;
    public static final long NO = Long.MIN_VALUE;

    private static final int MISSING = -5;
    private static final int NOTHING = -11, CAST = -12, PLACE = -13, SIZE = -14;
    private static final int NO_LOSS = -1001;

    private static final int PLAIN = 0, FINE = 1, VEINED = 2, KNOTTY = 3, HARD = 4, WET = 5, TOLD = 6;
    /** The KIND above each KIND; nothing is above the first. */
    private static final int[] ABOVE = {-1, PLAIN, PLAIN, PLAIN, FINE, VEINED, KNOTTY};

    private static final int BLOCKS = 6, HILLS = 6, TAPES = 6;
    private static final int MOST_V = 9, MOST_THICK = 60, MOST_DRY = 99, MOST_SPLIT = 9999;
    private static final int MOST_EARNED = 999999, MOST_DAY = 9999, MOST_DAYS = 60, MOST_ROW = 9;
    private static final int MOST_LASTS = 20, MOST_ASKED = 99999;
    private static final int ROW_PARTS = 4, SEEN_ROWS = 6, WEEK_ROWS = 10, BOOK_ROWS = 8;
    private static final int TEXT_BYTES = 100, MOST_SIGN = 127, TAPE_ITEMS = 60, TRACE_KEPT = 20;
    private static final int WEEK_DAY = 0, WEEK_SOLD = 1, WEEK_BEST = 2;
    private static final int ON_DRY = 10, ON_BEST = 20;
    private static final int BYTES = 0, SHORTS = 1, INTS = 2, LONGS = 3, BOOLEANS = 4;
    private static final int ROW_ENDED = 100;
    /** As thick as all BLOCKS together can be: no fraction holds a greater number. */
    private static final int GREATEST_SUM = BLOCKS * MOST_THICK;

    private final Scene now = new Scene();
    private final Scene kept = new Scene();
    private boolean isKept = false;
    /** Where what is only asked is tried out, so that nothing of it stays. */
    private final Yard later = new Yard();

    private final byte[] text = new byte[TEXT_BYTES];
    private int textLength = 0;
    private final Hill[] hills = new Hill[HILLS];
    private int hillCount = 0;
    private final Hill noHill = new Hill();
    private final HillReader reader = new HillReader();

    private final Blows blows = new Blows();
    private final Valuer valuer = new Valuer();
    private final Planner planner = new Planner();
    private final Acts acts = new Acts();
    private final Tape[] tapes = new Tape[TAPES];

    public SlateHalves() {
        for (int i = 0; i < HILLS; i++) {
            hills[i] = new Hill();
        }
        for (int i = 0; i < TAPES; i++) {
            tapes[i] = new Tape();
        }
    }

    // ---- blocks, hills

    public int block(int kind, int v, int thick) {
        if (!isWithin(kind, PLAIN, TOLD)) {
            return NONE;
        }
        if (!isWithin(v, 0, MOST_V) || !isWithin(thick, 1, MOST_THICK)) {
            return BAD;
        }
        Block made = now.yard.addBlock();
        if (made == null) {
            return FULL;
        }
        made.become(kind, v, thick);
        return made.number;
    }

    public int of(int block, int what) {
        Block asked = now.yard.find(block);
        if (asked == null) {
            return NONE;
        }
        switch (what) {
            case 0: return asked.kind;
            case 1: return asked.v;
            case 2: return asked.thick;
            case 3: return asked.dry;
            case 4: return asked.split;
            case 5: return holding().priceOf(asked, now.yard.day);
            case 6: return gripOf(asked.kind, asked.v, asked.dry);
            case 7: return driesOf(asked, holding().wind);
            default: return valueOf(asked, what);
        }
    }

    private int valueOf(Block asked, int what) {
        valuer.setBy(asked, now.yard.day, holding());
        switch (what) {
            case 8: return valuer.worthOf(asked.thick);
            case 9: return valuer.bestOf(asked.thick);
            case 10: return valuer.fewOf(asked.thick);
            case 11: return valuer.manyOf(asked.thick);
            case 12: return valuer.halvesOf(asked.thick);
            case 13: return valuer.blowOf(asked.thick);
            default: return NONE;
        }
    }

    public int dry(int block, int n) {
        Block dried = now.yard.find(block);
        if (dried == null) {
            return NONE;
        }
        if (!isWithin(n, 0, MOST_DRY)) {
            return BAD;
        }
        int before = dried.dry;
        dried.dry = n;
        return before;
    }

    public int row(int block, int part, int n) {
        Block changed = now.yard.find(block);
        if (changed == null || !isWithin(part, 0, ROW_PARTS - 1)) {
            return NONE;
        }
        if (!isWithin(n, 0, MOST_ROW)) {
            return BAD;
        }
        if (changed.kind != TOLD) {
            return STATE;
        }
        int before = changed.row[part];
        changed.row[part] = n;
        return before;
    }

    public int strike(int block, int x) {
        Block struck = now.yard.find(block);
        if (struck == null) {
            return NONE;
        }
        int thick = struck.thick;
        if (!isWithin(x, 1, thick - 1)) {
            return BAD;
        }
        if (struck.split >= MOST_SPLIT) {
            return STATE;
        }
        if (!isCleanBlow(struck, thick, x)) {
            struck.split++;
            struck.thick = Math.max(x, thick - x);
            return 0;
        }
        Block made = now.yard.addBlock();
        if (made == null) {
            return FULL;
        }
        struck.split++;
        struck.thick = x;
        made.copyFrom(struck);
        made.thick = thick - x;
        made.split = 0;
        return 1;
    }

    public int clean(int block, int t, int x) {
        Block asked = now.yard.find(block);
        if (asked == null) {
            return NONE;
        }
        if (!isBlow(t, x)) {
            return BAD;
        }
        return isCleanBlow(asked, t, x) ? 1 : 0;
    }

    public int sell(int block) {
        Block sold = now.yard.find(block);
        if (sold == null) {
            return NONE;
        }
        if (sold.isGone()) {
            return STATE;
        }
        int worth = worthIn(now.yard, sold);
        now.yard.earned = Math.min(MOST_EARNED, now.yard.earned + worth);
        sold.thick = 0;
        return worth;
    }

    public int feed(int sign) {
        if (!isWithin(sign, 0, MOST_SIGN)) {
            return BAD;
        }
        if (textLength >= TEXT_BYTES) {
            return FULL;
        }
        text[textLength] = (byte) sign;
        textLength++;
        return textLength;
    }

    public int hill() {
        if (hillCount >= HILLS) {
            return FULL;
        }
        // A text with a fault spoils only the next hill, which is not counted and is begun anew.
        int fault = reader.fillHill(hills[hillCount], text, textLength);
        textLength = 0;
        if (fault >= 0) {
            return -10 - fault;
        }
        now.yard.hill = hillCount;
        hillCount++;
        return now.yard.hill;
    }

    public int told(int what) {
        switch (what) {
            case 0: return now.yard.day;
            case 1: return holding().thinnest();
            case 2: return holding().thickest();
            case 3: return holding().wind;
            case 4: return now.yard.earned;
            case 5: return bestOfAll(now.yard);
            default: return NONE;
        }
    }

    // ---- days

    public int pass(int n) {
        if (!isWithin(n, 0, MOST_DAYS)) {
            return BAD;
        }
        if (now.yard.day + n > MOST_DAY) {
            return STATE;
        }
        now.yard.goDays(n, holding().wind);
        return now.yard.day;
    }

    public int on(int n, int what) {
        int number = what < ON_BEST ? what - ON_DRY : what - ON_BEST;
        if (what != 0 && now.yard.find(number) == null) {
            return NONE;
        }
        if (!isWithin(n, 0, MOST_DAYS)) {
            return BAD;
        }
        lookAhead(n);
        Block then = later.find(number);
        if (then == null) {
            return bestOfAll(later);
        }
        return what < ON_BEST ? then.dry : bestIn(later, then);
    }

    public int lasts(int q) {
        if (!isWithin(q, 0, MOST_ASKED)) {
            return BAD;
        }
        for (int days = MOST_LASTS; days >= 0; days--) {
            lookAhead(days);
            if (bestOfAll(later) >= q) {
                return days;
            }
        }
        return MISSING;
    }

    // ---- orders

    public int order(int k) {
        if (!isWithin(k, -1, BLOCKS - 1)) {
            return NONE;
        }
        planOrder();
        if (k < 0) {
            return planner.total;
        }
        return k < planner.length ? planner.placed[k] : MISSING;
    }

    private void planOrder() {
        int present = 0;
        for (int i = 0; i < now.yard.blockCount; i++) {
            if (!now.yard.blocks[i].isGone()) {
                present |= 1 << i;
            }
        }
        int many = Integer.bitCount(present);
        for (int days = 0; days < many; days++) {
            lookAhead(days);
            for (int i = 0; i < later.blockCount; i++) {
                planner.worths[i * BLOCKS + days] = bestIn(later, later.blocks[i]);
            }
        }
        planner.plan(present);
    }

    public int loses(int block) {
        Block asked = now.yard.find(block);
        return asked == null ? NO_LOSS : lossOf(asked);
    }

    private int lossOf(Block asked) {
        lookAhead(1);
        Block then = later.find(asked.number);
        int behind = then == null ? 0 : bestIn(later, then);
        return bestIn(now.yard, asked) - behind;
    }

    public int worst() {
        int found = MISSING;
        int most = 0;
        for (int i = 0; i < now.yard.blockCount; i++) {
            Block asked = now.yard.blocks[i];
            if (!asked.isGone()) {
                int loss = lossOf(asked);
                if (found == MISSING || loss > most) {
                    found = i;
                    most = loss;
                }
            }
        }
        return found;
    }

    // ---- seen, odds

    public int see(int x, int t, boolean isClean) {
        if (x == -1) {
            now.seen.size = 0;
            return 0;
        }
        if (!isBlow(t, x)) {
            return BAD;
        }
        return now.seen.addRow(x, t, isClean ? 1 : 0);
    }

    public int dryness(int block, int what) {
        return fitting(block, what, MOST_DRY, true);
    }

    public int can(int block, int what) {
        return fitting(block, what, MOST_V, false);
    }

    /** Of the numbers 0 .. most that DRY (or else v) may be by all of SEEN: how many, or the least. */
    private int fitting(int block, int what, int most, boolean isDry) {
        Block asked = now.yard.find(block);
        if (asked == null || !isWithin(what, 0, 1)) {
            return NONE;
        }
        int many = 0;
        int least = MISSING;
        for (int n = most; n >= 0; n--) {
            blows.setAs(asked, isDry ? asked.v : n, isDry ? n : asked.dry, now.yard.day);
            if (isAllSeenSo()) {
                many++;
                least = n;
            }
        }
        return what == 0 ? many : least;
    }

    private boolean isAllSeenSo() {
        Rows seen = now.seen;
        for (int i = 0; i < seen.size; i++) {
            if (blows.isCleanAt(seen.second[i], seen.first[i]) != (seen.third[i] == 1)) {
                return false;
            }
        }
        return true;
    }

    public long odds(int block, int part) {
        Block asked = now.yard.find(block);
        if (asked == null || asked.thick < 2) {
            return NO;
        }
        blows.setBy(asked, now.yard.day);
        int good = 0;
        for (int x = 1; x < asked.thick; x++) {
            if (blows.isCleanAt(asked.thick, x)) {
                good++;
            }
        }
        return partOf(good, asked.thick - 1, part);
    }

    public long mean(int part) {
        int sum = 0;
        int many = 0;
        for (int i = 0; i < now.yard.blockCount; i++) {
            if (!now.yard.blocks[i].isGone()) {
                sum += now.yard.blocks[i].thick;
                many++;
            }
        }
        return partOf(sum, many, part);
    }

    // ---- weeks, books

    public int week(int what, int block) {
        if (what == -1) {
            now.week.size = 0;
            return 0;
        }
        if (!isWithin(what, WEEK_DAY, WEEK_BEST)) {
            return NONE;
        }
        if (what != WEEK_DAY && now.yard.find(block) == null) {
            return NONE;
        }
        return now.week.addRow(what, block, 0);
    }

    public int ends(int what) {
        if (!isWithin(what, 0, 1)) {
            return NONE;
        }
        later.copyFrom(now.yard);
        int more = 0;
        for (int i = 0; i < now.week.size; i++) {
            more += goRow(now.week.first[i], later.find(now.week.second[i]));
        }
        return what == 0 ? more : later.countPresent();
    }

    /** What one row of the WEEK brings; the block counts only where something is SOLD. */
    private int goRow(int what, Block sold) {
        if (what == WEEK_DAY) {
            later.goDays(1, holding().wind);
            return 0;
        }
        if (sold == null || sold.isGone()) {
            return 0;
        }
        int brought = what == WEEK_SOLD ? worthIn(later, sold) : bestIn(later, sold);
        sold.thick = 0;
        return brought;
    }

    public int book(int block, int thick) {
        if (block == -1) {
            now.book.size = 0;
            return 0;
        }
        if (now.yard.find(block) == null) {
            return NONE;
        }
        if (!isWithin(thick, 0, MOST_THICK)) {
            return BAD;
        }
        return now.book.addRow(block, thick, 0);
    }

    public int looked() {
        for (int i = 0; i < now.book.size; i++) {
            Block asked = now.yard.find(now.book.first[i]);
            if (asked == null || asked.thick != now.book.second[i]) {
                return i;
            }
        }
        return MISSING;
    }

    // ---- judging, the image, acts, tapes

    public int judge(int tape, int i) {
        if (!isWithin(tape, 0, TAPES - 1)) {
            return NONE;
        }
        Tape judged = tapes[tape];
        if (!judged.isNothing() && judged.sort != BYTES) {
            return CAST;
        }
        for (int k = 0; k < now.yard.blockCount; k++) {
            // Taken off the size, as i and k together may be more than an int holds.
            if (i < 0 || i >= judged.size - k) {
                return ROW_ENDED + k;
            }
            if (judged.items[i + k] != now.yard.blocks[k].thick) {
                return k;
            }
        }
        return MISSING;
    }

    public int image() {
        kept.copyFrom(now);
        isKept = true;
        return kept.yard.blockCount;
    }

    public int undo() {
        if (!isKept) {
            return STATE;
        }
        now.copyFrom(kept);
        return now.yard.blockCount;
    }

    public int act(int block, int act, int x) {
        acts.ran = 0;
        Block actor = now.yard.find(block);
        return actor == null ? 0 : acts.perform(actor, act, x);
    }

    public int trace(int i) {
        return isWithin(i, 0, Math.min(acts.ran, TRACE_KEPT) - 1) ? acts.bodies[i] : NONE;
    }

    public int taken(int block, int k) {
        if (!isWithin(k, PLAIN, TOLD)) {
            return BAD;
        }
        Block asked = now.yard.find(block);
        if (asked == null) {
            return NOTHING;
        }
        int kind = asked.kind;
        for (int i = PLAIN; i <= TOLD && isWithin(kind, PLAIN, TOLD); i++) {
            if (kind == k) {
                return asked.kind;
            }
            kind = ABOVE[kind];
        }
        return CAST;
    }

    public int count(int what) {
        switch (what) {
            case 0: return now.yard.blockCount;
            case 1: return hillCount;
            case 2: return now.seen.size;
            case 3: return now.week.size;
            case 4: return now.book.size;
            case 5: return textLength;
            case 6: return acts.ran;
            default: return BAD;
        }
    }

    public int tape(int tape, int sort, int n) {
        if (!isWithin(tape, 0, TAPES - 1)) {
            return NONE;
        }
        if (sort == -1) {
            tapes[tape].becomeNothing();
            return 1;
        }
        if (!isWithin(sort, BYTES, BOOLEANS) || n > TAPE_ITEMS) {
            return BAD;
        }
        if (n < 0) {
            return SIZE;
        }
        tapes[tape].become(sort, n);
        return 1;
    }

    public int item(int tape, int i, long v) {
        if (!isWithin(tape, 0, TAPES - 1)) {
            return NONE;
        }
        Tape changed = tapes[tape];
        if (changed.isNothing()) {
            return NOTHING;
        }
        if (!isWithin(i, 0, changed.size - 1)) {
            return PLACE;
        }
        changed.items[i] = changed.fit(v);
        return 1;
    }

    public long read(int tape, int i) {
        if (!isWithin(tape, 0, TAPES - 1) || !isWithin(i, 0, tapes[tape].size - 1)) {
            return NO;
        }
        return tapes[tape].items[i];
    }

    public int shift(int tape, int i, int other, int j, int n) {
        if (!isWithin(tape, 0, TAPES - 1) || !isWithin(other, 0, TAPES - 1)) {
            return NONE;
        }
        Tape from = tapes[tape];
        Tape to = tapes[other];
        if (from.isNothing() || to.isNothing()) {
            return NOTHING;
        }
        if (from.sort != to.sort) {
            return CAST;
        }
        if (n < 0 || !isWithin(i, 0, from.size - n) || !isWithin(j, 0, to.size - n)) {
            return PLACE;
        }
        System.arraycopy(from.items, i, to.items, j, n);
        return n;
    }

    // ---- what several calls share

    private static boolean isWithin(int n, int least, int most) {
        return n >= least && n <= most;
    }

    private static boolean isBlow(int t, int x) {
        return isWithin(t, 2, MOST_THICK) && isWithin(x, 1, t - 1);
    }

    private static int gripOf(int kind, int v, int dry) {
        int firm = kind == FINE || kind == HARD ? 3 + v / 3 : 3;
        return Math.max(0, firm - dry / 10);
    }

    private static int driesOf(Block block, int wind) {
        return block.kind == WET ? wind / 2 : wind;
    }

    /** The part (0 above, 1 below the line) of above by below in lowest terms; NO without one. */
    private static long partOf(int above, int below, int part) {
        if (below < 1 || !isWithin(part, 0, 1)) {
            return NO;
        }
        int divisor = below;
        int rest = above;
        // Far fewer steps do: what is left is halved in two of them.
        for (int i = 0; i < GREATEST_SUM && rest != 0; i++) {
            int next = divisor % rest;
            divisor = rest;
            rest = next;
        }
        // The least divisor is 1, as below is 1 or more: the test is for the machine alone.
        return divisor == 0 ? NO : (part == 0 ? above : below) / divisor;
    }

    private Hill holding() {
        int held = now.yard.hill;
        return isWithin(held, 0, hillCount - 1) ? hills[held] : noHill;
    }

    private boolean isCleanBlow(Block block, int t, int x) {
        blows.setBy(block, now.yard.day);
        return blows.isCleanAt(t, x);
    }

    private int worthIn(Yard yard, Block block) {
        valuer.setBy(block, yard.day, holding());
        return valuer.worthOf(block.thick);
    }

    private int bestIn(Yard yard, Block block) {
        valuer.setBy(block, yard.day, holding());
        return valuer.bestOf(block.thick);
    }

    private int bestOfAll(Yard yard) {
        int sum = 0;
        for (int i = 0; i < yard.blockCount; i++) {
            sum += bestIn(yard, yard.blocks[i]);
        }
        return sum;
    }

    private void lookAhead(int days) {
        later.copyFrom(now.yard);
        later.goDays(days, holding().wind);
    }

    /** One BLOCK; its number is its place in its yard, and stays. */
    private static final class Block {
        final int number;
        int kind, v, thick, dry, split;
        final int[] row = new int[ROW_PARTS];

        Block(int number) {
            this.number = number;
        }

        boolean isGone() {
            return thick == 0;
        }

        void become(int newKind, int newV, int newThick) {
            kind = newKind;
            v = newV;
            thick = newThick;
            dry = 0;
            split = 0;
            Arrays.fill(row, 0);
        }

        void copyFrom(Block other) {
            kind = other.kind;
            v = other.v;
            thick = other.thick;
            dry = other.dry;
            split = other.split;
            System.arraycopy(other.row, 0, row, 0, ROW_PARTS);
        }
    }

    /** All BLOCKS, the DAY, what is EARNED and the number of the HILL that holds (-1: none). */
    private static final class Yard {
        final Block[] blocks = new Block[BLOCKS];
        int blockCount = 0;
        int earned = 0;
        int day = 0;
        int hill = -1;

        Yard() {
            for (int i = 0; i < BLOCKS; i++) {
                blocks[i] = new Block(i);
            }
        }

        /** The BLOCK of that number, null if there is none. */
        Block find(int number) {
            return isWithin(number, 0, blockCount - 1) ? blocks[number] : null;
        }

        /** The next BLOCK, still as whoever stood there last left it; null if all are there. */
        Block addBlock() {
            if (blockCount >= BLOCKS) {
                return null;
            }
            blockCount++;
            return blocks[blockCount - 1];
        }

        int countPresent() {
            int present = 0;
            for (int i = 0; i < blockCount; i++) {
                if (!blocks[i].isGone()) {
                    present++;
                }
            }
            return present;
        }

        void goDays(int days, int wind) {
            for (int i = 0; i < blockCount; i++) {
                Block block = blocks[i];
                if (!block.isGone()) {
                    block.dry = Math.min(MOST_DRY, block.dry + days * driesOf(block, wind));
                }
            }
            day += days;
        }

        void copyFrom(Yard other) {
            for (int i = 0; i < other.blockCount; i++) {
                blocks[i].copyFrom(other.blocks[i]);
            }
            blockCount = other.blockCount;
            earned = other.earned;
            day = other.day;
            hill = other.hill;
        }
    }

    /** Up to a limit of rows of three numbers, told by hand. */
    private static final class Rows {
        final int limit;
        final int[] first, second, third;
        int size = 0;

        Rows(int limit) {
            this.limit = limit;
            first = new int[limit];
            second = new int[limit];
            third = new int[limit];
        }

        int addRow(int one, int two, int three) {
            if (size >= limit) {
                return FULL;
            }
            first[size] = one;
            second[size] = two;
            third[size] = three;
            size++;
            return size;
        }

        /** Takes the rows of another one with the same limit. */
        void copyFrom(Rows other) {
            size = Math.min(limit, other.size);
            System.arraycopy(other.first, 0, first, 0, size);
            System.arraycopy(other.second, 0, second, 0, size);
            System.arraycopy(other.third, 0, third, 0, size);
        }
    }

    /** All that THE IMAGE holds. */
    private static final class Scene {
        final Yard yard = new Yard();
        final Rows seen = new Rows(SEEN_ROWS);
        final Rows week = new Rows(WEEK_ROWS);
        final Rows book = new Rows(BOOK_ROWS);

        void copyFrom(Scene other) {
            yard.copyFrom(other.yard);
            seen.copyFrom(other.seen);
            week.copyFrom(other.week);
            book.copyFrom(other.book);
        }
    }

    /** Where a blow is CLEAN, for one BLOCK as it is, or as it would be. */
    private static final class Blows {
        private int kind, grip;
        /** What a TOLD one's ROW adds to the thickness. */
        private int lean;
        /** The place of the vein or the knot. */
        int mark = 1;

        void setBy(Block block, int day) {
            setAs(block, block.v, block.dry, day);
        }

        void setAs(Block block, int v, int dry, int day) {
            kind = block.kind;
            grip = gripOf(kind, v, dry);
            lean = kind == TOLD ? block.row[Math.floorMod(day, ROW_PARTS)] : 0;
            mark = v + 1;
        }

        boolean isCleanAt(int t, int x) {
            int apart = 2 * x - t - lean;
            boolean isNear = apart <= grip && apart >= -grip;
            switch (kind) {
                case VEINED:
                case WET: return isNear || x == mark;
                case KNOTTY:
                case TOLD: return isNear && x != mark;
                case HARD: return isNear && t >= 4;
                default: return isNear;
            }
        }

        /** The least x that may be near enough; what is CLEAN below that is the mark. */
        int leastNear(int t) {
            return Math.max(1, (t + lean - grip + 1) >> 1);
        }

        int greatestNear(int t) {
            return Math.min(t - 1, (t + lean + grip) >> 1);
        }
    }

    /** What the pieces of one BLOCK are worth; a table's place t is for a piece t thick. */
    private static final class Valuer {
        private final Blows blows = new Blows();
        private final int[] best = new int[MOST_THICK + 1];
        private final int[] other = new int[MOST_THICK + 1];
        private int thin, most, full, half;

        void setBy(Block block, int day, Hill hill) {
            blows.setAs(block, block.v, block.dry, day);
            thin = hill.thinnest();
            most = hill.thickest();
            full = hill.priceOf(block, day);
            half = full / 2;
        }

        int worthOf(int t) {
            if (t < thin || t > 2 * most) {
                return 0;
            }
            return t <= most ? full : half;
        }

        int bestOf(int thick) {
            fillBest(thick);
            return best[limited(thick)];
        }

        /** As BEST, if a SLATE is worth 1 and all else nothing. */
        int manyOf(int thick) {
            full = 1;
            half = 0;
            return bestOf(thick);
        }

        int fewOf(int thick) {
            fillBest(thick);
            int last = limited(thick);
            other[0] = 0;
            for (int t = 1; t <= last; t++) {
                other[t] = best[t] == worthOf(t) ? 0 : fewestBehind(t);
            }
            return other[last];
        }

        private int fewestBehind(int t) {
            int fewest = MOST_THICK;
            for (int x = 1; x < t; x++) {
                if (behind(best, t, x) == best[t]) {
                    fewest = Math.min(fewest, 1 + behind(other, t, x));
                }
            }
            return fewest;
        }

        int halvesOf(int thick) {
            int last = limited(thick);
            other[0] = 0;
            for (int t = 1; t <= last; t++) {
                other[t] = t <= most ? worthOf(t) : behind(other, t, t / 2);
            }
            return other[last];
        }

        int blowOf(int thick) {
            fillBest(thick);
            int t = limited(thick);
            if (best[t] == worthOf(t)) {
                return 0;
            }
            for (int x = 1; x < t; x++) {
                if (behind(best, t, x) == best[t]) {
                    return x;
                }
            }
            return 0;
        }

        /**
         * A blow at t less 1 leaves t less 1 at least, CLEAN or not: so the table never falls, and
         * of all blows that are not CLEAN none brings more than that one. Only CLEAN ones are tried.
         */
        private void fillBest(int thick) {
            int last = limited(thick);
            best[0] = 0;
            for (int t = 1; t <= last; t++) {
                int found = Math.max(worthOf(t), best[t - 1]);
                int end = blows.greatestNear(t);
                for (int x = blows.leastNear(t); x <= end; x++) {
                    found = Math.max(found, cleanSum(t, x));
                }
                best[t] = Math.max(found, cleanSum(t, blows.mark));
            }
        }

        private int cleanSum(int t, int x) {
            return isWithin(x, 1, t - 1) && blows.isCleanAt(t, x) ? best[x] + best[t - x] : 0;
        }

        /** What a table says of all that a blow at x leaves of a piece t thick. */
        private int behind(int[] table, int t, int x) {
            if (t >= table.length || !isWithin(x, 1, t - 1)) {
                return 0;
            }
            return blows.isCleanAt(t, x) ? table[x] + table[t - x] : table[Math.max(x, t - x)];
        }

        private static int limited(int thick) {
            return Math.max(0, Math.min(MOST_THICK, thick));
        }
    }

    /** CLAUSES that were read: what is dear or cheap as steps, each behind what it looks at. */
    private static final class Hill {
        static final int TEST = 0, NOT = 1, AND = 2, OR = 3, DEAR = 4, CHEAP = 5;
        static final int UNTOLD_THIN = 2, UNTOLD_THICK = 5, UNTOLD_WIND = 1;

        private final int[] steps = new int[TEXT_BYTES];
        private int stepCount = 0;
        int thin = UNTOLD_THIN, thick = UNTOLD_THICK, wind = UNTOLD_WIND;

        void clear() {
            stepCount = 0;
            thin = UNTOLD_THIN;
            thick = UNTOLD_THICK;
            wind = UNTOLD_WIND;
        }

        int thinnest() {
            return Math.max(1, thin);
        }

        int thickest() {
            return Math.max(thinnest(), thick);
        }

        /** Each step comes of a byte of its own of THE TEXT, so there is room for all. */
        void addStep(int kind, int letter, int sign, int n) {
            if (stepCount < TEXT_BYTES) {
                steps[stepCount] = kind << 24 | letter << 16 | sign << 8 | n;
                stepCount++;
            }
        }

        int priceOf(Block block, int day) {
            int price = 10;
            // What was found so far and is not yet used, the newest in the lowest bit.
            int found = 0;
            for (int i = 0; i < stepCount; i++) {
                int step = steps[i];
                switch (step >> 24) {
                    case TEST:
                        found = found << 1 | (holdsTest(step, block, day) ? 1 : 0);
                        break;
                    case NOT:
                        found = found ^ 1;
                        break;
                    case AND:
                        found = found >> 1 & (found | ~1);
                        break;
                    case OR:
                        found = found >> 1 | found & 1;
                        break;
                    case DEAR:
                        price += (found & 1) * (step & 255);
                        found = 0;
                        break;
                    default:
                        price -= (found & 1) * (step & 255);
                        found = 0;
                        break;
                }
            }
            return Math.max(0, price);
        }

        private static boolean holdsTest(int step, Block block, int day) {
            int is = looksAt(step >> 16 & 255, block, day);
            int n = step & 255;
            switch (step >> 8 & 255) {
                case '<': return is < n;
                case '=': return is == n;
                default: return is > n;
            }
        }

        private static int looksAt(int letter, Block block, int day) {
            switch (letter) {
                case 'b': return block.number;
                case 'k': return block.kind;
                case 'v': return block.v;
                case 't': return block.thick / 10;
                case 'd': return block.dry / 10;
                default: return day % 10;
            }
        }
    }

    /**
     * Reads a HILL from the left on. Each byte is looked at before it is passed, and none is passed
     * that does not fit: so where the reading stops, there is the FAULT.
     */
    private static final class HillReader {
        private static final int CLAUSES = 10, DEEPEST = 4, WORDS = 5;
        private static final int DEAR = 0, CHEAP = 1, THIN = 2, THICK = 3;
        private static final String LETTERS = "bkvtdy", SIGNS = "<=>";

        private byte[] text = new byte[0];
        private int length = 0;
        private int place = 0;
        private Hill hill = new Hill();

        /** Fills the hill from the text: -1, or the FAULT. */
        int fillHill(Hill filled, byte[] source, int sourceLength) {
            text = source;
            length = Math.min(sourceLength, source.length);
            place = 0;
            hill = filled;
            hill.clear();
            for (int clauses = 1; clauses <= CLAUSES; clauses++) {
                if (!takeClause()) {
                    return place;
                }
                if (place == length) {
                    return -1;
                }
                if (clauses == CLAUSES || !takeSign(';')) {
                    return place;
                }
            }
            return place;
        }

        private int sign() {
            return place < length ? text[place] : -1;
        }

        private boolean takeSign(int wanted) {
            if (sign() != wanted) {
                return false;
            }
            place++;
            return true;
        }

        private boolean takeClause() {
            int word = takeWord();
            if (word < 0 || !takeSign(' ')) {
                return false;
            }
            int n = takeNumber();
            if (n < 0) {
                return false;
            }
            if (word == DEAR || word == CHEAP) {
                if (!takeSign(' ') || !takeEither(0)) {
                    return false;
                }
                hill.addStep(word == DEAR ? Hill.DEAR : Hill.CHEAP, 0, 0, n);
            } else if (word == THIN) {
                hill.thin = n;
            } else if (word == THICK) {
                hill.thick = n;
            } else {
                hill.wind = n;
            }
            return true;
        }

        private static String wordOf(int word) {
            switch (word) {
                case DEAR: return "dear";
                case CHEAP: return "cheap";
                case THIN: return "thin";
                case THICK: return "thick";
                default: return "wind";
            }
        }

        /** The word that stands here; -1 if none does: then as much is passed as some word has. */
        private int takeWord() {
            int longest = 0;
            for (int word = 0; word < WORDS; word++) {
                int same = sameSigns(wordOf(word));
                if (same == wordOf(word).length()) {
                    place += same;
                    return word;
                }
                longest = Math.max(longest, same);
            }
            place += longest;
            return -1;
        }

        private int sameSigns(String word) {
            int most = Math.min(word.length(), length - place);
            for (int i = 0; i < most; i++) {
                if (text[place + i] != word.charAt(i)) {
                    return i;
                }
            }
            return most;
        }

        /** A number of one or two digits; -1 if none stands here. */
        private int takeNumber() {
            int first = sign();
            if (!isWithin(first, '0', '9')) {
                return -1;
            }
            place++;
            int second = sign();
            if (!isWithin(second, '0', '9')) {
                return first - '0';
            }
            place++;
            return (first - '0') * 10 + second - '0';
        }

        /** E, within as many ( and ! as depth says. */
        private boolean takeEither(int depth) {
            if (!takeBoth(depth)) {
                return false;
            }
            for (int i = 0; i < length && takeSign('|'); i++) {
                if (!takeBoth(depth)) {
                    return false;
                }
                hill.addStep(Hill.OR, 0, 0, 0);
            }
            return true;
        }

        /** T. */
        private boolean takeBoth(int depth) {
            if (!takePart(depth)) {
                return false;
            }
            for (int i = 0; i < length && takeSign('&'); i++) {
                if (!takePart(depth)) {
                    return false;
                }
                hill.addStep(Hill.AND, 0, 0, 0);
            }
            return true;
        }

        /** F. */
        private boolean takePart(int depth) {
            if (sign() != '(' && sign() != '!') {
                return takeTest();
            }
            if (depth >= DEEPEST) {
                return false;
            }
            if (takeSign('(')) {
                return takeEither(depth + 1) && takeSign(')');
            }
            if (!takeSign('!') || !takePart(depth + 1)) {
                return false;
            }
            hill.addStep(Hill.NOT, 0, 0, 0);
            return true;
        }

        private boolean takeTest() {
            int letter = takeOneOf(LETTERS);
            if (letter < 0) {
                return false;
            }
            int sign = takeOneOf(SIGNS);
            if (sign < 0) {
                return false;
            }
            int n = takeNumber();
            if (n < 0) {
                return false;
            }
            hill.addStep(Hill.TEST, letter, sign, n);
            return true;
        }

        private int takeOneOf(String wanted) {
            int found = sign();
            if (found < 0 || wanted.indexOf((char) found) < 0) {
                return -1;
            }
            place++;
            return found;
        }
    }

    /** Finds in which ORDER the BLOCKS are worth most, by what is best of each set of them. */
    private static final class Planner {
        /** At a BLOCK's number by 6, and the DAYS: what it is worth behind those. */
        final int[] worths = new int[BLOCKS * BLOCKS];
        final int[] placed = new int[BLOCKS];
        int length = 0;
        int total = 0;
        /** At a set of BLOCKS, a bit each: the most that they bring as the last of the order. */
        private final int[] most = new int[1 << BLOCKS];

        void plan(int present) {
            length = Math.min(BLOCKS, Integer.bitCount(present));
            most[0] = 0;
            for (int set = 1; set < most.length; set++) {
                if ((set & present) == set) {
                    most[set] = mostOf(set);
                }
            }
            int rest = present & most.length - 1;
            total = most[rest];
            for (int k = 0; k < length; k++) {
                placed[k] = firstOf(rest);
                rest &= ~(1 << placed[k]);
            }
        }

        private int mostOf(int set) {
            int found = 0;
            for (int i = 0; i < BLOCKS; i++) {
                found = Math.max(found, sumWith(i, set));
            }
            return found;
        }

        private int firstOf(int set) {
            for (int i = 0; i < BLOCKS; i++) {
                if (sumWith(i, set) == most[set]) {
                    return i;
                }
            }
            return 0;
        }

        /** The most that a set brings with that BLOCK ahead; -1 if it is not in the set. */
        private int sumWith(int number, int set) {
            int days = length - Integer.bitCount(set);
            int bit = 1 << number;
            if ((set & bit) == 0 || set >= most.length || !isWithin(days, 0, BLOCKS - 1)) {
                return -1;
            }
            return worths[number * BLOCKS + days] + most[set ^ bit];
        }
    }

    /** The bodies of the ACTS, and THE TRACE of those that ran. */
    private static final class Acts {
        final int[] bodies = new int[TRACE_KEPT];
        int ran = 0;
        private int kind, v, number;

        int perform(Block actor, int act, int x) {
            kind = actor.kind;
            v = actor.v;
            number = actor.number;
            switch (act) {
                case 0: return ringsFrom(kind, x);
                case 1: return splitsFrom(kind, x);
                case 2: return tellsFrom(kind, x);
                default: return 0;
            }
        }

        private void begin(int body) {
            if (ran < TRACE_KEPT) {
                bodies[ran] = body;
            }
            ran++;
        }

        private int ringsFrom(int from, int x) {
            switch (from) {
                case VEINED:
                case WET:
                    begin(30);
                    return ringsFrom(PLAIN, x * 3);
                case HARD:
                    begin(50);
                    return -ringsFrom(FINE, x);
                case TOLD:
                    begin(71);
                    return ringsFrom(KNOTTY, x) ^ v;
                default:
                    begin(10);
                    return x + number;
            }
        }

        private int splitsFrom(int from, int x) {
            switch (from) {
                case FINE:
                    begin(20);
                    return splitsFrom(PLAIN, x) ^ 6;
                case HARD:
                    begin(51);
                    return splitsFrom(FINE, x + 1);
                case TOLD:
                    begin(70);
                    return splitsFrom(KNOTTY, x) + ringsFrom(KNOTTY, 2);
                default:
                    begin(11);
                    return ringsFrom(kind, x) - v;
            }
        }

        private int tellsFrom(int from, int x) {
            switch (from) {
                case KNOTTY:
                case TOLD:
                    begin(40);
                    return tellsFrom(PLAIN, x) + splitsFrom(kind, 1);
                case WET:
                    begin(60);
                    return tellsFrom(VEINED, x - number);
                default:
                    begin(12);
                    return splitsFrom(kind, x) * 2;
            }
        }
    }

    /** One TAPE; whatever its sort, its items stand as longs that fit the sort. */
    private static final class Tape {
        final long[] items = new long[TAPE_ITEMS];
        int sort = -1;
        int size = 0;

        boolean isNothing() {
            return sort < 0;
        }

        void becomeNothing() {
            sort = -1;
            size = 0;
        }

        void become(int newSort, int newSize) {
            sort = newSort;
            size = newSize;
            Arrays.fill(items, 0L);
        }

        long fit(long v) {
            switch (sort) {
                case BYTES: return (byte) v;
                case SHORTS: return (short) v;
                case INTS: return (int) v;
                case LONGS: return v;
                default: return v != 0 ? 1 : 0;
            }
        }
    }
}

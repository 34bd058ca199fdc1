import java.util.ArrayList;
import java.util.List;
import java.util.function.Supplier;

/**
 * Every call that is refused: by which answer (of several the first that the call's words name), and that
 * all is as before, as far as it can be seen. Each call is made on an object of its own.
 */
public final class RefusedTest {
    private static final Checks checks = new Checks();
    private static final int MIN = Integer.MIN_VALUE, MAX = Integer.MAX_VALUE;
    private static final int NONE = -1, BAD = -2, STATE = -3, FULL = -4;
    private static final int NOTHING = -11, CAST = -12, PLACE = -13, SIZE = -14;
    private static final long NO = Long.MIN_VALUE;
    /** Numbers that no BLOCK can have, and those beside some of four. */
    private static final int[] NO_BLOCKS = {MIN, -2, -1, 4, 5, 6, MAX};

    private interface Call {
        long on(SlateHalves x);
    }

    private static Supplier<SlateHalves> given;
    private static List<String> before;

    public static void main(String[] args) {
        on(SlateHalves::new);
        newObject();
        on(Given::some);
        noSuchBlock();
        blocks();
        rows();
        blows();
        gone();
        texts();
        days();
        seen();
        weeks();
        tapes();
        items();
        shifts();
        on(Given::full);
        noRoom();
        on(RefusedTest::fullText);
        fullTexts();
        on(Given::late);
        lateDays();
        checks.end();
    }

    private static void on(Supplier<SlateHalves> newGiven) {
        given = newGiven;
        before = Sight.of(given.get());
        checks.begin("refused");
        checks.holds("few enough calls show all: " + before.size(), before.size() < 340);
    }

    private static SlateHalves fullText() {
        SlateHalves x = Given.blocks(1, 20);
        Checks.feed(x, "thin 3".concat(" ".repeat(94)));
        return x;
    }

    private static void refused(long due, String name, Call call) {
        SlateHalves x = given.get();
        checks.due(name, call.on(x), due);
        List<String> behind = Sight.of(x);
        if (!behind.equals(before)) {
            List<String> more = new ArrayList<>(behind);
            more.removeAll(before);
            checks.holds(name + " leaves all as it was, but then " + more, false);
        } else {
            checks.holds(name + " leaves all as it was", true);
        }
    }

    private static void newObject() {
        checks.begin("refused by a new object");
        refused(NONE, "of(0, 0)", x -> x.of(0, 0));
        refused(NONE, "dry(0, 5)", x -> x.dry(0, 5));
        refused(NONE, "row(0, 0, 0)", x -> x.row(0, 0, 0));
        refused(NONE, "strike(0, 1)", x -> x.strike(0, 1));
        refused(NONE, "clean(0, 2, 1)", x -> x.clean(0, 2, 1));
        refused(NONE, "sell(0)", x -> x.sell(0));
        refused(NONE, "on(0, 10)", x -> x.on(0, 10));
        refused(NONE, "on(0, 20)", x -> x.on(0, 20));
        refused(-1001, "loses(0)", x -> x.loses(0));
        refused(NONE, "dryness(0, 0)", x -> x.dryness(0, 0));
        refused(NONE, "can(0, 0)", x -> x.can(0, 0));
        refused(NO, "odds(0, 0)", x -> x.odds(0, 0));
        refused(NO, "mean(0)", x -> x.mean(0));
        refused(NO, "mean(1)", x -> x.mean(1));
        refused(NONE, "week(1, 0)", x -> x.week(1, 0));
        refused(NONE, "week(2, 0)", x -> x.week(2, 0));
        refused(NONE, "book(0, 0)", x -> x.book(0, 0));
        refused(STATE, "undo()", x -> x.undo());
        refused(0, "act(0, 0, 0)", x -> x.act(0, 0, 0));
        refused(NONE, "trace(0)", x -> x.trace(0));
        refused(NOTHING, "taken(0, 0)", x -> x.taken(0, 0));
        refused(NOTHING, "item(0, 0, 1)", x -> x.item(0, 0, 1));
        refused(NO, "read(0, 0)", x -> x.read(0, 0));
        refused(NOTHING, "shift(0, 0, 1, 0, 0)", x -> x.shift(0, 0, 1, 0, 0));
        refused(-10, "hill(), an empty text", x -> x.hill());
    }

    /** NONE of a BLOCK comes first, however wrong the other numbers are. */
    private static void noSuchBlock() {
        checks.begin("refused, no such BLOCK");
        for (int b : NO_BLOCKS) {
            refused(NONE, "of(" + b + ", 0)", x -> x.of(b, 0));
            refused(NONE, "dry(" + b + ", 5)", x -> x.dry(b, 5));
            refused(NONE, "dry(" + b + ", 100)", x -> x.dry(b, 100));
            refused(NONE, "row(" + b + ", 0, 1)", x -> x.row(b, 0, 1));
            refused(NONE, "row(" + b + ", 0, 10)", x -> x.row(b, 0, 10));
            refused(NONE, "strike(" + b + ", 1)", x -> x.strike(b, 1));
            refused(NONE, "strike(" + b + ", 0)", x -> x.strike(b, 0));
            refused(NONE, "clean(" + b + ", 2, 1)", x -> x.clean(b, 2, 1));
            refused(NONE, "clean(" + b + ", 1, 1)", x -> x.clean(b, 1, 1));
            refused(NONE, "sell(" + b + ")", x -> x.sell(b));
            refused(-1001, "loses(" + b + ")", x -> x.loses(b));
            refused(NONE, "dryness(" + b + ", 0)", x -> x.dryness(b, 0));
            refused(NONE, "can(" + b + ", 1)", x -> x.can(b, 1));
            refused(NO, "odds(" + b + ", 0)", x -> x.odds(b, 0));
            refused(NONE, "week(1, " + b + ")", x -> x.week(1, b));
            refused(NONE, "week(2, " + b + ")", x -> x.week(2, b));
            refused(NOTHING, "taken(" + b + ", 0)", x -> x.taken(b, 0));
            refused(BAD, "taken(" + b + ", 7)", x -> x.taken(b, 7));
            if (b != -1) {
                refused(NONE, "book(" + b + ", 5)", x -> x.book(b, 5));
                refused(NONE, "book(" + b + ", 61)", x -> x.book(b, 61));
            }
        }
    }

    private static void blocks() {
        checks.begin("refused by block, of, dry, told, count");
        for (int kind : new int[] {MIN, -1, 7, MAX}) {
            refused(NONE, "block(" + kind + ", 0, 1)", x -> x.block(kind, 0, 1));
            refused(NONE, "block(" + kind + ", 10, 0)", x -> x.block(kind, 10, 0));
        }
        for (int v : new int[] {MIN, -1, 10, MAX}) {
            refused(BAD, "block(0, " + v + ", 1)", x -> x.block(0, v, 1));
        }
        for (int thick : new int[] {MIN, -1, 0, 61, MAX}) {
            refused(BAD, "block(0, 0, " + thick + ")", x -> x.block(0, 0, thick));
        }
        for (int what : new int[] {MIN, -1, 14, MAX}) {
            refused(NONE, "of(0, " + what + ")", x -> x.of(0, what));
        }
        for (int n : new int[] {MIN, -1, 100, MAX}) {
            refused(BAD, "dry(0, " + n + ")", x -> x.dry(0, n));
            refused(BAD, "dry(2, " + n + "), gone", x -> x.dry(2, n));
        }
        for (int what : new int[] {MIN, -1, 6, MAX}) {
            refused(NONE, "told(" + what + ")", x -> x.told(what));
        }
        for (int what : new int[] {MIN, -1, 7, MAX}) {
            refused(BAD, "count(" + what + ")", x -> x.count(what));
        }
    }

    private static void rows() {
        checks.begin("refused by row");
        for (int part : new int[] {MIN, -1, 4, MAX}) {
            refused(NONE, "row(0, " + part + ", 1)", x -> x.row(0, part, 1));
            refused(NONE, "row(0, " + part + ", 10)", x -> x.row(0, part, 10));
            refused(NONE, "row(1, " + part + ", 10), another KIND", x -> x.row(1, part, 10));
        }
        for (int n : new int[] {MIN, -1, 10, MAX}) {
            refused(BAD, "row(0, 0, " + n + ")", x -> x.row(0, 0, n));
            refused(BAD, "row(1, 0, " + n + "), another KIND", x -> x.row(1, 0, n));
        }
        for (int b = 1; b <= 3; b++) {
            int block = b;
            refused(STATE, "row(" + b + ", 3, 9), another KIND", x -> x.row(block, 3, 9));
        }
    }

    private static void blows() {
        checks.begin("refused by strike, clean");
        // The BLOCKS are 20, 28, 0 and 41 thick.
        for (int x : new int[] {MIN, -1, 0, 20, 21, MAX}) {
            refused(BAD, "strike(0, " + x + ")", o -> o.strike(0, x));
        }
        for (int x : new int[] {-1, 0, 1, MAX}) {
            refused(BAD, "strike(2, " + x + "), gone", o -> o.strike(2, x));
        }
        for (int t : new int[] {MIN, -1, 0, 1, 61, MAX}) {
            refused(BAD, "clean(0, " + t + ", 1)", x -> x.clean(0, t, 1));
        }
        for (int x : new int[] {MIN, -1, 0, 12, 13, MAX}) {
            refused(BAD, "clean(0, 12, " + x + ")", o -> o.clean(0, 12, x));
        }
        refused(BAD, "clean(0, 2, 2)", x -> x.clean(0, 2, 2));
        refused(BAD, "clean(0, 60, 60)", x -> x.clean(0, 60, 60));
    }

    private static void gone() {
        checks.begin("refused, it is gone");
        refused(STATE, "sell(2)", x -> x.sell(2));
        refused(NO, "odds(2, 0)", x -> x.odds(2, 0));
        refused(NO, "odds(2, 1)", x -> x.odds(2, 1));
    }

    private static void texts() {
        checks.begin("refused by feed");
        for (int sign : new int[] {MIN, -1, 128, MAX}) {
            refused(BAD, "feed(" + sign + ")", x -> x.feed(sign));
        }
    }

    private static void days() {
        checks.begin("refused by pass, on, lasts, order");
        for (int n : new int[] {MIN, -1, 61, MAX}) {
            refused(BAD, "pass(" + n + ")", x -> x.pass(n));
            refused(BAD, "on(" + n + ", 0)", x -> x.on(n, 0));
            refused(BAD, "on(" + n + ", 10)", x -> x.on(n, 10));
            refused(BAD, "on(" + n + ", 23)", x -> x.on(n, 23));
            refused(NONE, "on(" + n + ", 14)", x -> x.on(n, 14));
            refused(NONE, "on(" + n + ", 1)", x -> x.on(n, 1));
        }
        for (int what : new int[] {MIN, MIN + 9, MIN + 10, MIN + 20, -1, 1, 9, 14, 15, 16, 19, 24, 25, 26, MAX}) {
            refused(NONE, "on(0, " + what + ")", x -> x.on(0, what));
        }
        for (int q : new int[] {MIN, -1, 100000, MAX}) {
            refused(BAD, "lasts(" + q + ")", x -> x.lasts(q));
        }
        for (int k : new int[] {MIN, -2, 6, MAX}) {
            refused(NONE, "order(" + k + ")", x -> x.order(k));
        }
    }

    private static void seen() {
        checks.begin("refused by see, dryness, can, odds, mean");
        for (int t : new int[] {MIN, -1, 0, 1, 61, MAX}) {
            refused(BAD, "see(1, " + t + ", true)", x -> x.see(1, t, true));
        }
        for (int x : new int[] {MIN, -2, 0, 20, 21, MAX}) {
            refused(BAD, "see(" + x + ", 20, true)", o -> o.see(x, 20, true));
        }
        refused(BAD, "see(2, 2, false)", x -> x.see(2, 2, false));
        refused(BAD, "see(60, 60, false)", x -> x.see(60, 60, false));
        for (int what : new int[] {MIN, -1, 2, MAX}) {
            refused(NONE, "dryness(0, " + what + ")", x -> x.dryness(0, what));
            refused(NONE, "can(0, " + what + ")", x -> x.can(0, what));
            refused(NO, "odds(0, " + what + ")", x -> x.odds(0, what));
            refused(NO, "mean(" + what + ")", x -> x.mean(what));
        }
    }

    private static void weeks() {
        checks.begin("refused by week, ends, book");
        for (int what : new int[] {MIN, -2, 3, MAX}) {
            refused(NONE, "week(" + what + ", 0)", x -> x.week(what, 0));
        }
        for (int what : new int[] {MIN, -1, 2, MAX}) {
            refused(NONE, "ends(" + what + ")", x -> x.ends(what));
        }
        for (int thick : new int[] {MIN, -1, 61, MAX}) {
            refused(BAD, "book(0, " + thick + ")", x -> x.book(0, thick));
        }
    }

    private static void tapes() {
        checks.begin("refused by judge, trace, taken, tape");
        for (int tape : new int[] {MIN, -1, 6, MAX}) {
            refused(NONE, "judge(" + tape + ", 0)", x -> x.judge(tape, 0));
            refused(NONE, "judge(" + tape + ", -1)", x -> x.judge(tape, -1));
            refused(NONE, "tape(" + tape + ", 0, 1)", x -> x.tape(tape, 0, 1));
            refused(NONE, "tape(" + tape + ", -1, 1)", x -> x.tape(tape, -1, 1));
            refused(NONE, "tape(" + tape + ", 5, 61)", x -> x.tape(tape, 5, 61));
            refused(NONE, "tape(" + tape + ", 0, -1)", x -> x.tape(tape, 0, -1));
        }
        for (int tape : new int[] {1, 3, 4}) {
            refused(CAST, "judge(" + tape + ", 0)", x -> x.judge(tape, 0));
            refused(CAST, "judge(" + tape + ", -1)", x -> x.judge(tape, -1));
            refused(CAST, "judge(" + tape + ", 60)", x -> x.judge(tape, 60));
        }
        // The latest act was telling of a TOLD one: twelve bodies.
        for (int i : new int[] {MIN, -1, 12, 19, 20, MAX}) {
            refused(NONE, "trace(" + i + ")", x -> x.trace(i));
        }
        for (int k : new int[] {MIN, -1, 7, MAX}) {
            refused(BAD, "taken(0, " + k + ")", x -> x.taken(0, k));
        }
        for (int k : new int[] {1, 2, 4, 5}) {
            refused(CAST, "taken(0, " + k + ")", x -> x.taken(0, k));
        }
        for (int sort : new int[] {MIN, -2, 5, MAX}) {
            refused(BAD, "tape(0, " + sort + ", 1)", x -> x.tape(0, sort, 1));
            refused(BAD, "tape(0, " + sort + ", -1)", x -> x.tape(0, sort, -1));
        }
        for (int sort = 0; sort <= 4; sort++) {
            int same = sort;
            refused(BAD, "tape(0, " + sort + ", 61)", x -> x.tape(0, same, 61));
            refused(BAD, "tape(0, " + sort + ", MAX)", x -> x.tape(0, same, MAX));
            refused(SIZE, "tape(0, " + sort + ", -1)", x -> x.tape(0, same, -1));
            refused(SIZE, "tape(0, " + sort + ", MIN)", x -> x.tape(0, same, MIN));
        }
    }

    private static void items() {
        checks.begin("refused by item, read");
        for (int tape : new int[] {MIN, -1, 6, MAX}) {
            refused(NONE, "item(" + tape + ", 0, 1)", x -> x.item(tape, 0, 1));
            refused(NONE, "item(" + tape + ", -1, 1)", x -> x.item(tape, -1, 1));
            refused(NO, "read(" + tape + ", 0)", x -> x.read(tape, 0));
        }
        for (int i : new int[] {MIN, -1, 0, 60, MAX}) {
            refused(NOTHING, "item(5, " + i + ", 1)", x -> x.item(5, i, 1));
            refused(NO, "read(5, " + i + ")", x -> x.read(5, i));
        }
        for (int i : new int[] {MIN, -1, 4, 59, 60, MAX}) {
            refused(PLACE, "item(0, " + i + ", 1)", x -> x.item(0, i, 1));
            refused(NO, "read(0, " + i + ")", x -> x.read(0, i));
        }
        refused(PLACE, "item(2, 0, 1), a row of 0 items", x -> x.item(2, 0, 1));
        refused(NO, "read(2, 0), a row of 0 items", x -> x.read(2, 0));
    }

    private static void shifts() {
        checks.begin("refused by shift");
        for (int tape : new int[] {MIN, -1, 6, MAX}) {
            shift(NONE, tape, 0, 0, 0, 1);
            shift(NONE, 0, 0, tape, 0, 1);
            shift(NONE, tape, 0, 5, 0, 1);
            shift(NONE, 5, 0, tape, 0, 1);
            shift(NONE, tape, -1, 1, -1, -1);
        }
        shift(NOTHING, 5, 0, 5, 0, 0);
        shift(NOTHING, 5, 0, 0, 0, 1);
        shift(NOTHING, 0, 0, 5, 0, 1);
        shift(NOTHING, 5, -1, 0, -1, -1);
        shift(CAST, 0, 0, 1, 0, 1);
        shift(CAST, 1, 0, 0, 0, 0);
        shift(CAST, 3, -1, 4, 60, -1);
        // TAPE 0 holds 4 bytes, TAPE 2 holds none.
        for (int n : new int[] {MIN, -1, 5, MAX}) {
            shift(PLACE, 0, 0, 0, 0, n);
        }
        for (int wrong : new int[] {MIN, -1, 3, 4, 5, MAX}) {
            shift(PLACE, 0, wrong, 0, 0, 2);
            shift(PLACE, 0, 0, 0, wrong, 2);
        }
        for (int wrong : new int[] {MIN, -1, 5, MAX}) {
            shift(PLACE, 0, wrong, 0, 0, 0);
            shift(PLACE, 0, 0, 0, wrong, 0);
        }
        shift(PLACE, 0, 0, 2, 0, 1);
        shift(PLACE, 2, 0, 0, 0, 1);
        shift(PLACE, 0, 0, 2, 1, 0);
        shift(PLACE, 2, 1, 0, 0, 0);
        shift(PLACE, 0, MAX, 0, MAX, MAX);
        shift(PLACE, 0, 1, 0, 1, MAX);
    }

    private static void shift(long due, int tape, int i, int other, int j, int n) {
        refused(due, "shift(" + tape + ", " + i + ", " + other + ", " + j + ", " + n + ")",
                x -> x.shift(tape, i, other, j, n));
    }

    private static void noRoom() {
        checks.begin("refused, no room left");
        refused(FULL, "block(0, 0, 1)", x -> x.block(0, 0, 1));
        refused(BAD, "block(0, 0, 61)", x -> x.block(0, 0, 61));
        refused(NONE, "block(7, 0, 1)", x -> x.block(7, 0, 1));
        refused(FULL, "strike(0, 10), CLEAN", x -> x.strike(0, 10));
        refused(BAD, "strike(0, 20)", x -> x.strike(0, 20));
        refused(FULL, "hill()", x -> x.hill());
        refused(FULL, "see(1, 2, true)", x -> x.see(1, 2, true));
        refused(BAD, "see(2, 2, true)", x -> x.see(2, 2, true));
        refused(FULL, "week(0, 0)", x -> x.week(0, 0));
        refused(FULL, "week(1, 0)", x -> x.week(1, 0));
        refused(FULL, "week(2, 5)", x -> x.week(2, 5));
        refused(NONE, "week(2, 6)", x -> x.week(2, 6));
        refused(NONE, "week(3, 0)", x -> x.week(3, 0));
        refused(FULL, "book(0, 0)", x -> x.book(0, 0));
        refused(BAD, "book(0, 61)", x -> x.book(0, 61));
        refused(NONE, "book(6, 0)", x -> x.book(6, 0));
    }

    private static void fullTexts() {
        checks.begin("refused, 100 bytes");
        refused(FULL, "feed(0)", x -> x.feed(0));
        refused(FULL, "feed(127)", x -> x.feed(127));
        refused(BAD, "feed(128)", x -> x.feed(128));
        refused(BAD, "feed(-1)", x -> x.feed(-1));
    }

    private static void lateDays() {
        checks.begin("refused, DAY would be above 9999");
        refused(STATE, "pass(1)", x -> x.pass(1));
        refused(STATE, "pass(60)", x -> x.pass(60));
        refused(BAD, "pass(61)", x -> x.pass(61));
        refused(BAD, "pass(-1)", x -> x.pass(-1));
    }
}

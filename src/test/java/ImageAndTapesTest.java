/** Promises 27 to 37, each by calls whose answers were worked out by hand. */
public final class ImageAndTapesTest {
    private static final Checks checks = new Checks();

    public static void main(String[] args) {
        judge();
        imageAndUndo();
        whatTheImageLeaves();
        acts();
        trace();
        taken();
        count();
        tape();
        item();
        shift();
        shiftWrong();
        checks.end();
    }

    private static void judge() {
        checks.begin("27 judge");
        SlateHalves x = new SlateHalves();
        checks.due("judge(-1, 0)", x.judge(-1, 0), -1);
        checks.due("judge(6, 0)", x.judge(6, 0), -1);
        checks.due("judge(0, 0), nothing at all", x.judge(0, 0), -5);
        x.tape(1, 1, 5);
        checks.due("judge(1, 0), shorts", x.judge(1, 0), -12);
        checks.due("judge(1, -1), shorts", x.judge(1, -1), -12);
        x.tape(1, 4, 0);
        checks.due("judge(1, 0), booleans", x.judge(1, 0), -12);
        x.block(0, 0, 7);
        x.block(0, 0, 56);
        x.block(0, 0, 9);
        x.sell(2);
        checks.due("judge(0, 0), nothing", x.judge(0, 0), 100);
        x.tape(0, 0, 5);
        checks.due("judge(0, 0)", x.judge(0, 0), 0);
        x.item(0, 2, 7);
        x.item(0, 3, 56);
        checks.due("judge(0, 2)", x.judge(0, 2), -5);
        checks.due("judge(0, 1)", x.judge(0, 1), 0);
        checks.due("judge(0, -1)", x.judge(0, -1), 100);
        checks.due("judge(0, MIN)", x.judge(0, Integer.MIN_VALUE), 100);
        checks.due("judge(0, MAX)", x.judge(0, Integer.MAX_VALUE), 100);
        checks.due("judge(0, 5)", x.judge(0, 5), 100);
        checks.due("judge(0, 4), otherwise ahead of the end", x.judge(0, 4), 0);
        x.item(0, 4, 7);
        checks.due("judge(0, 4)", x.judge(0, 4), 101);
        x.item(0, 3, 7);
        x.item(0, 4, 56);
        checks.due("judge(0, 3)", x.judge(0, 3), 102);
        checks.due("judge(0, 2)", x.judge(0, 2), 1);
        x.tape(0, 0, 3);
        x.item(0, 0, 7);
        x.item(0, 1, 56);
        x.item(0, 2, 1);
        checks.due("judge(0, 0), what is gone is 0 thick", x.judge(0, 0), 2);
        x.item(0, 1, 256 + 56);
        x.item(0, 2, 256);
        checks.due("judge(0, 0), the lowest bits", x.judge(0, 0), -5);
        x.item(0, 1, -56);
        checks.due("judge(0, 0), below 0", x.judge(0, 0), 1);
    }

    private static void imageAndUndo() {
        checks.begin("28, 29 image, undo");
        SlateHalves x = new SlateHalves();
        checks.due("undo()", x.undo(), -3);
        checks.due("image()", x.image(), 0);
        checks.due("undo()", x.undo(), 0);
        x.block(6, 5, 20);
        x.block(1, 2, 30);
        x.block(0, 0, 5);
        x.row(0, 1, 6);
        x.dry(1, 15);
        x.strike(1, 1);
        x.sell(2);
        x.pass(3);
        Checks.hill(x, "wind 2");
        x.see(1, 2, true);
        x.see(1, 3, false);
        x.week(2, 0);
        x.week(0, 0);
        x.week(1, 1);
        x.book(0, 20);
        x.book(1, 28);
        checks.due("image()", x.image(), 3);
        x.block(3, 1, 1);
        x.block(3, 1, 1);
        x.row(0, 1, 7);
        x.row(0, 2, 8);
        x.dry(1, 99);
        x.strike(1, 1);
        x.sell(0);
        x.pass(60);
        Checks.hill(x, "wind 9;thin 9");
        x.see(-1, 0, true);
        x.see(5, 20, false);
        x.week(-1, 0);
        x.week(0, 0);
        x.book(-1, 0);
        x.book(2, 60);
        x.book(2, 60);
        x.book(2, 60);
        checks.due("undo()", x.undo(), 3);
        asThen(x);
        x.see(-1, 0, true);
        x.week(-1, 0);
        x.book(-1, 0);
        x.sell(0);
        x.row(0, 1, 1);
        checks.due("undo(), once more", x.undo(), 3);
        asThen(x);
        x.block(0, 0, 2);
        checks.due("image(), a newer one", x.image(), 4);
        x.sell(3);
        checks.due("undo()", x.undo(), 4);
        checks.due("of(3, 2)", x.of(3, 2), 2);
    }

    private static void asThen(SlateHalves x) {
        checks.due("count(0)", x.count(0), 3);
        int[] thicks = {20, 29, 0};
        int[] drys = {3, 18, 0};
        int[] splits = {0, 1, 0};
        int[] kinds = {6, 1, 0};
        int[] vs = {5, 2, 0};
        for (int i = 0; i < 3; i++) {
            checks.due("of(" + i + ", 0)", x.of(i, 0), kinds[i]);
            checks.due("of(" + i + ", 1)", x.of(i, 1), vs[i]);
            checks.due("of(" + i + ", 2)", x.of(i, 2), thicks[i]);
            checks.due("of(" + i + ", 3)", x.of(i, 3), drys[i]);
            checks.due("of(" + i + ", 4)", x.of(i, 4), splits[i]);
        }
        checks.due("row(0, 1, 6)", x.row(0, 1, 6), 6);
        checks.due("row(0, 2, 0)", x.row(0, 2, 0), 0);
        checks.due("told(0)", x.told(0), 3);
        checks.due("told(1)", x.told(1), 2);
        checks.due("told(3)", x.told(3), 2);
        checks.due("told(4)", x.told(4), 10);
        checks.due("count(2)", x.count(2), 2);
        checks.due("count(3)", x.count(3), 3);
        checks.due("count(4)", x.count(4), 2);
        checks.due("looked()", x.looked(), 1);
        checks.due("ends(1)", x.ends(1), 0);
        checks.due("dryness(1, 0)", x.dryness(1, 0), 70);
    }

    private static void whatTheImageLeaves() {
        checks.begin("29 undo, what stays");
        SlateHalves x = new SlateHalves();
        x.image();
        Checks.hill(x, "wind 7");
        Checks.feed(x, "thin");
        x.tape(0, 0, 3);
        x.item(0, 1, 9);
        x.block(0, 0, 5);
        x.act(0, 1, 4);
        checks.due("undo()", x.undo(), 0);
        checks.due("told(3), no hill holds", x.told(3), 1);
        checks.due("count(1)", x.count(1), 1);
        checks.due("count(5)", x.count(5), 4);
        checks.due("count(6)", x.count(6), 2);
        checks.due("trace(0)", x.trace(0), 11);
        checks.due("read(0, 1)", x.read(0, 1), 9);
        x.image();
        checks.due("a newer hill", Checks.hill(x, " 6"), 1);
        checks.due("told(1)", x.told(1), 6);
        checks.due("told(3)", x.told(3), 1);
        checks.due("a third", Checks.hill(x, "wind 3"), 2);
        x.image();
        checks.due("a fourth", Checks.hill(x, "wind 4"), 3);
        x.undo();
        checks.due("told(3), the third holds", x.told(3), 3);
        checks.due("a fifth", Checks.hill(x, "wind 5"), 4);
        checks.due("told(3)", x.told(3), 5);
        x.undo();
        checks.due("a fault", Checks.hill(x, "wind 61;"), -18);
        checks.due("told(3), the third holds", x.told(3), 3);
    }

    private static void acts() {
        checks.begin("30 act");
        // Each at place 1 with v 5, x 7: what it answers and which bodies run.
        act(0, 0, 8, 10);
        act(0, 1, 3, 11, 10);
        act(0, 2, 6, 12, 11, 10);
        act(1, 0, 8, 10);
        act(1, 1, 5, 20, 11, 10);
        act(1, 2, 10, 12, 20, 11, 10);
        act(2, 0, 22, 30, 10);
        act(2, 1, 17, 11, 30, 10);
        act(2, 2, 34, 12, 11, 30, 10);
        act(3, 0, 8, 10);
        act(3, 1, 3, 11, 10);
        act(3, 2, 3, 40, 12, 11, 10, 11, 10);
        act(4, 0, -8, 50, 10);
        act(4, 1, -12, 51, 20, 11, 50, 10);
        act(4, 2, -24, 12, 51, 20, 11, 50, 10);
        act(5, 0, 22, 30, 10);
        act(5, 1, 17, 11, 30, 10);
        act(5, 2, 28, 60, 12, 11, 30, 10);
        // TOLD rings: 8 ^ 5 is 13; splits: 13 - 5, and 2 + 1; tells: twice that, and splits(1): (2 ^ 5) - 5 + 3.
        act(6, 0, 13, 71, 10);
        act(6, 1, 11, 70, 11, 71, 10, 10);
        act(6, 2, 27, 40, 12, 70, 11, 71, 10, 10, 70, 11, 71, 10, 10);
        SlateHalves x = new SlateHalves();
        x.block(2, 3, 5);
        checks.due("act(0, 0, MAX), wrapping", x.act(0, 0, Integer.MAX_VALUE), Integer.MAX_VALUE * 3);
        checks.due("act(0, 1, MIN), wrapping", x.act(0, 1, Integer.MIN_VALUE), Integer.MIN_VALUE - 3);
        checks.due("count(6)", x.count(6), 3);
        checks.due("act(1, 0, 4)", x.act(1, 0, 4), 0);
        checks.due("count(6), no such block", x.count(6), 0);
        checks.due("trace(0)", x.trace(0), -1);
        x.act(0, 0, 4);
        checks.due("act(0, 3, 4)", x.act(0, 3, 4), 0);
        checks.due("count(6), no such act", x.count(6), 0);
        checks.due("trace(0)", x.trace(0), -1);
        x.act(0, 0, 4);
        checks.due("act(0, -1, 4)", x.act(0, -1, 4), 0);
        checks.due("count(6), no such act", x.count(6), 0);
        checks.due("act(-1, 0, 4)", x.act(-1, 0, 4), 0);
        x.sell(0);
        checks.due("act(0, 0, 4), gone", x.act(0, 0, 4), 12);
    }

    private static void act(int kind, int act, int due, int... bodies) {
        SlateHalves x = new SlateHalves();
        x.block(0, 0, 1);
        x.block(kind, 5, 9);
        String call = "kind " + kind + ": act(1, " + act + ", 7)";
        checks.due(call, x.act(1, act, 7), due);
        checks.due(call + ", count(6)", x.count(6), bodies.length);
        for (int i = 0; i < bodies.length; i++) {
            checks.due(call + ", trace(" + i + ")", x.trace(i), bodies[i]);
        }
        checks.due(call + ", trace(" + bodies.length + ")", x.trace(bodies.length), -1);
        checks.due(call + ", of(1, 2)", x.of(1, 2), 9);
    }

    private static void trace() {
        checks.begin("31 trace");
        SlateHalves x = new SlateHalves();
        checks.due("trace(0)", x.trace(0), -1);
        x.block(6, 0, 5);
        x.act(0, 2, 1);
        checks.due("trace(-1)", x.trace(-1), -1);
        checks.due("trace(11)", x.trace(11), 10);
        checks.due("trace(12)", x.trace(12), -1);
        checks.due("trace(19)", x.trace(19), -1);
        checks.due("trace(20)", x.trace(20), -1);
        checks.due("trace(MAX)", x.trace(Integer.MAX_VALUE), -1);
        checks.due("trace(MIN)", x.trace(Integer.MIN_VALUE), -1);
        x.act(0, 0, 1);
        checks.due("trace(0), the latest act's", x.trace(0), 71);
        checks.due("trace(2), the latest act's", x.trace(2), -1);
        checks.due("count(6)", x.count(6), 2);
    }

    private static void taken() {
        checks.begin("32 taken");
        SlateHalves x = new SlateHalves();
        checks.due("taken(0, 7)", x.taken(0, 7), -2);
        checks.due("taken(0, -1)", x.taken(0, -1), -2);
        checks.due("taken(0, 0)", x.taken(0, 0), -11);
        String[] lines = {"1000000", "1100000", "1010000", "1001000", "1100100", "1010010", "1001001"};
        for (int kind = 0; kind < 7; kind++) {
            SlateHalves y = new SlateHalves();
            y.block(kind, 0, 5);
            y.sell(0);
            for (int k = 0; k < 7; k++) {
                checks.due("kind " + kind + ": taken(0, " + k + ")", y.taken(0, k), lines[kind].charAt(k) == '1' ? kind : -12);
            }
            checks.due("taken(1, 0)", y.taken(1, 0), -11);
            checks.due("taken(-1, 0)", y.taken(-1, 0), -11);
            checks.due("taken(0, 7)", y.taken(0, 7), -2);
        }
    }

    private static void count() {
        checks.begin("33 count");
        SlateHalves x = new SlateHalves();
        x.block(0, 0, 5);
        x.block(0, 0, 5);
        x.block(0, 0, 5);
        x.sell(1);
        Checks.hill(x, "thin 1");
        Checks.hill(x, "thin 1");
        Checks.hill(x, "thin");
        x.see(1, 2, true);
        x.week(0, 0);
        x.week(0, 0);
        x.week(0, 0);
        x.week(0, 0);
        for (int i = 0; i < 5; i++) {
            x.book(0, 1);
        }
        Checks.feed(x, "abcdef");
        x.act(0, 2, 0);
        int[] due = {3, 2, 1, 4, 5, 6, 3};
        for (int what = 0; what < due.length; what++) {
            checks.due("count(" + what + ")", x.count(what), due[what]);
        }
        checks.due("count(-1)", x.count(-1), -2);
        checks.due("count(7)", x.count(7), -2);
    }

    private static void tape() {
        checks.begin("34 tape");
        SlateHalves x = new SlateHalves();
        checks.due("tape(-1, 0, 1)", x.tape(-1, 0, 1), -1);
        checks.due("tape(6, 0, 1)", x.tape(6, 0, 1), -1);
        checks.due("tape(6, 9, -1)", x.tape(6, 9, -1), -1);
        checks.due("tape(0, 5, 1)", x.tape(0, 5, 1), -2);
        checks.due("tape(0, -2, 1)", x.tape(0, -2, 1), -2);
        checks.due("tape(0, 5, -1)", x.tape(0, 5, -1), -2);
        checks.due("tape(0, 0, 61)", x.tape(0, 0, 61), -2);
        checks.due("tape(0, 0, -1)", x.tape(0, 0, -1), -14);
        checks.due("tape(0, 0, MIN)", x.tape(0, 0, Integer.MIN_VALUE), -14);
        checks.due("read(0, 0)", x.read(0, 0), SlateHalves.NO);
        for (int sort = 0; sort < 5; sort++) {
            checks.due("tape(sort, sort, 60)", x.tape(sort, sort, 60), 1);
            checks.due("read(sort, 0)", x.read(sort, 0), 0);
            checks.due("read(sort, 59)", x.read(sort, 59), 0);
            checks.due("read(sort, 60)", x.read(sort, 60), SlateHalves.NO);
        }
        x.item(1, 2, 5);
        checks.due("tape(1, 1, 3)", x.tape(1, 1, 3), 1);
        checks.due("read(1, 2), anew", x.read(1, 2), 0);
        checks.due("read(1, 3), shorter", x.read(1, 3), SlateHalves.NO);
        x.item(1, 2, 5);
        checks.due("tape(1, 1, 61)", x.tape(1, 1, 61), -2);
        checks.due("tape(1, 1, -1)", x.tape(1, 1, -1), -14);
        checks.due("read(1, 2)", x.read(1, 2), 5);
        checks.due("tape(1, -1, 61)", x.tape(1, -1, 61), 1);
        checks.due("read(1, 2), nothing", x.read(1, 2), SlateHalves.NO);
        checks.due("tape(2, -1, -5)", x.tape(2, -1, -5), 1);
        checks.due("item(2, 0, 1)", x.item(2, 0, 1), -11);
        checks.due("tape(1, 3, 0)", x.tape(1, 3, 0), 1);
        checks.due("read(1, 0)", x.read(1, 0), SlateHalves.NO);
        checks.due("item(1, 0, 1), an empty row is not nothing", x.item(1, 0, 1), -13);
    }

    private static void item() {
        checks.begin("35, 36 item, read");
        SlateHalves x = new SlateHalves();
        checks.due("item(-1, 0, 1)", x.item(-1, 0, 1), -1);
        checks.due("item(6, 0, 1)", x.item(6, 0, 1), -1);
        checks.due("item(5, -1, 1)", x.item(5, -1, 1), -11);
        for (int sort = 0; sort < 5; sort++) {
            x.tape(sort, sort, 3);
        }
        checks.due("item(0, 3, 1)", x.item(0, 3, 1), -13);
        checks.due("item(0, -1, 1)", x.item(0, -1, 1), -13);
        checks.due("item(0, MIN, 1)", x.item(0, Integer.MIN_VALUE, 1), -13);
        checks.due("item(0, MAX, 1)", x.item(0, Integer.MAX_VALUE, 1), -13);
        long[] given = {0, 1, -1, 127, 128, 255, 256, 32767, 32768, 65536, 2147483647L, 2147483648L, 4294967296L,
            Long.MAX_VALUE, Long.MIN_VALUE, 0x123456789ABCDEFL};
        for (long v : given) {
            item(x, 0, v, (byte) v);
            item(x, 1, v, (short) v);
            item(x, 2, v, (int) v);
            item(x, 3, v, v);
            item(x, 4, v, v == 0 ? 0 : 1);
        }
        checks.due("read(-1, 0)", x.read(-1, 0), SlateHalves.NO);
        checks.due("read(6, 0)", x.read(6, 0), SlateHalves.NO);
        checks.due("read(5, 0)", x.read(5, 0), SlateHalves.NO);
        checks.due("read(0, -1)", x.read(0, -1), SlateHalves.NO);
        checks.due("read(0, 3)", x.read(0, 3), SlateHalves.NO);
        checks.due("read(0, MAX)", x.read(0, Integer.MAX_VALUE), SlateHalves.NO);
        checks.due("read(0, MIN)", x.read(0, Integer.MIN_VALUE), SlateHalves.NO);
    }

    private static void item(SlateHalves x, int tape, long v, long due) {
        String call = "item(" + tape + ", 2, " + v + ")";
        checks.due(call, x.item(tape, 2, v), 1);
        checks.due(call + ", read", x.read(tape, 2), due);
        checks.due(call + ", read beside it", x.read(tape, 1), 0);
    }

    private static void shift() {
        checks.begin("37 shift");
        SlateHalves x = new SlateHalves();
        x.tape(0, 2, 5);
        x.tape(1, 2, 4);
        for (int i = 0; i < 5; i++) {
            x.item(0, i, i + 1);
        }
        checks.due("shift(0, 1, 1, 0, 3)", x.shift(0, 1, 1, 0, 3), 3);
        reads(x, 1, 2, 3, 4, 0);
        checks.due("shift(0, 4, 1, 3, 1)", x.shift(0, 4, 1, 3, 1), 1);
        reads(x, 1, 2, 3, 4, 5);
        checks.due("shift(0, 0, 0, 1, 4), onward", x.shift(0, 0, 0, 1, 4), 4);
        reads(x, 0, 1, 1, 2, 3, 4);
        checks.due("shift(0, 2, 0, 0, 3), back", x.shift(0, 2, 0, 0, 3), 3);
        reads(x, 0, 2, 3, 4, 3, 4);
        checks.due("shift(0, 5, 1, 4, 0)", x.shift(0, 5, 1, 4, 0), 0);
        checks.due("shift(1, 0, 0, 1, 4)", x.shift(1, 0, 0, 1, 4), 4);
        reads(x, 0, 2, 2, 3, 4, 5);
    }

    private static void reads(SlateHalves x, int tape, long... due) {
        for (int i = 0; i < due.length; i++) {
            checks.due("read(" + tape + ", " + i + ")", x.read(tape, i), due[i]);
        }
        checks.due("read(" + tape + ", " + due.length + ")", x.read(tape, due.length), SlateHalves.NO);
    }

    private static void shiftWrong() {
        checks.begin("37 shift, wrong");
        SlateHalves x = new SlateHalves();
        x.tape(0, 2, 5);
        x.tape(1, 2, 4);
        x.tape(2, 3, 4);
        int max = Integer.MAX_VALUE;
        int min = Integer.MIN_VALUE;
        int[][] calls = {
            {-1, 0, 0, 0, 0, -1}, {6, 0, 0, 0, 0, -1}, {0, 0, -1, 0, 0, -1}, {0, 0, 6, 0, 0, -1}, {3, 0, 6, 0, 0, -1},
            {3, 0, 0, 0, 0, -11}, {0, 0, 3, 0, 0, -11}, {3, -1, 4, -1, -1, -11}, {2, 0, 3, 0, 1, -11},
            {0, 0, 2, 0, 1, -12}, {2, 0, 0, 0, 1, -12}, {2, -1, 0, 0, 1, -12},
            {0, -1, 1, 0, 1, -13}, {0, 0, 1, -1, 1, -13}, {0, 0, 1, 0, -1, -13},
            {0, 0, 1, 0, 5, -13}, {1, 0, 0, 0, 5, -13}, {0, 3, 1, 0, 3, -13}, {0, 0, 1, 2, 3, -13},
            {0, 6, 1, 0, 0, -13}, {0, 0, 1, 5, 0, -13}, {0, 5, 1, 0, 1, -13}, {0, 0, 1, 4, 1, -13},
            {0, max, 1, 0, 1, -13}, {0, 0, 1, max, 1, -13}, {0, 0, 1, 0, max, -13}, {0, max, 1, max, max, -13},
            {0, min, 1, 0, 1, -13}, {0, 0, 1, min, 1, -13}, {0, 0, 1, 0, min, -13}, {0, 2, 0, 2, max, -13},
            {0, -1, 1, -1, 0, -13}, {0, 5, 1, 4, 0, 0},
        };
        for (int[] c : calls) {
            checks.due("shift(" + c[0] + ", " + c[1] + ", " + c[2] + ", " + c[3] + ", " + c[4] + ")",
                    x.shift(c[0], c[1], c[2], c[3], c[4]), c[5]);
        }
    }
}

/** The edges that the document names for promises 27 to 37, a test for each sentence of it. */
public final class EdgesOfTapesTest {
    private static final Checks checks = new Checks();
    private static final long NO = Long.MIN_VALUE;
    private static final int MIN = Integer.MIN_VALUE, MAX = Integer.MAX_VALUE;

    public static void main(String[] args) {
        judgeEdges();
        judgeNone();
        judgeEnds();
        judgeFirst();
        imageEdges();
        undoAgain();
        undoHolds();
        undoLeaves();
        actEdges();
        actInherits();
        actWraps();
        traceEdges();
        traceLatest();
        takenEdges();
        countEdges();
        tapeEdges();
        tapeAnew();
        itemEdges();
        itemBits();
        readEdges();
        shiftEdges();
        shiftPlaces();
        shiftOverlaps();
        checks.end();
    }

    /** TAPE 0 becomes a row of bytes. */
    private static void bytes(SlateHalves x, int... row) {
        x.tape(0, 0, row.length);
        for (int i = 0; i < row.length; i++) {
            x.item(0, i, row[i]);
        }
    }

    private static void judgeEdges() {
        checks.begin("27, 'NONE: tape; CAST: it is no row of bytes'");
        SlateHalves x = Given.blocks(1, 5);
        checks.due("judge(-1, 0)", x.judge(-1, 0), -1);
        checks.due("judge(6, 0)", x.judge(6, 0), -1);
        for (int tape = 0; tape <= 5; tape++) {
            checks.due("judge(" + tape + ", 0), nothing there", x.judge(tape, 0), 100);
            for (int sort = 1; sort <= 4; sort++) {
                x.tape(tape, sort, 3);
                x.item(tape, 0, 5);
                for (int i : new int[] {-1, 0, 2, 3}) {
                    checks.due("judge(" + tape + ", " + i + "), sort " + sort, x.judge(tape, i), -12);
                }
            }
            x.tape(tape, 0, 1);
            x.item(tape, 0, 5);
            checks.due("judge(" + tape + ", 0), bytes", x.judge(tape, 0), -5);
        }
        SlateHalves none = new SlateHalves();
        none.tape(0, 2, 3);
        checks.due("ints, CAST though there are no BLOCKS", none.judge(0, 0), -12);
        none.tape(0, 2, 0);
        checks.due("no ints, CAST", none.judge(0, 0), -12);
    }

    private static void judgeNone() {
        checks.begin("27, '-5: none, or there is none to look at'");
        SlateHalves x = new SlateHalves();
        bytes(x, 5, 6);
        for (int i : new int[] {MIN, -1, 0, 1, 2, 3, MAX}) {
            checks.due("no BLOCKS: judge(0, " + i + ")", x.judge(0, i), -5);
            checks.due("no BLOCKS: judge(1, " + i + "), nothing there", x.judge(1, i), -5);
        }
        x.block(0, 0, 5);
        x.block(0, 0, 6);
        checks.due("none is otherwise", x.judge(0, 0), -5);
        bytes(x, 5, 6, 9);
        checks.due("none, and more in the row", x.judge(0, 0), -5);
    }

    private static void judgeEnds() {
        checks.begin("27, '100 and how many were looked at, if the row ends ahead of that'");
        SlateHalves x = new SlateHalves();
        for (int b = 0; b < 6; b++) {
            x.block(0, 0, b + 1);
        }
        for (int many = 0; many <= 5; many++) {
            bytes(x, first(many));
            checks.due(many + " in the row", x.judge(0, 0), 100 + many);
        }
        bytes(x, 1, 2, 3, 4, 5, 6);
        checks.due("6 in the row", x.judge(0, 0), -5);
        checks.begin("27, '(or the place is below 0, or the TAPE holds nothing)'");
        for (int i : new int[] {MIN, MIN + 1, -2, -1}) {
            checks.due("judge(0, " + i + ")", x.judge(0, i), 100);
        }
        for (int i : new int[] {6, 7, 60, MAX - 5, MAX - 1, MAX}) {
            checks.due("judge(0, " + i + "), behind the end", x.judge(0, i), 100);
        }
        for (int i : new int[] {MIN, -1, 0, 1, MAX}) {
            checks.due("judge(1, " + i + "), nothing there", x.judge(1, i), 100);
        }
        x.tape(0, -1, 0);
        checks.due("judge(0, 0), nothing there any more", x.judge(0, 0), 100);
    }

    private static int[] first(int many) {
        int[] row = new int[many];
        for (int i = 0; i < many; i++) {
            row[i] = i + 1;
        }
        return row;
    }

    private static void judgeFirst() {
        checks.begin("27, 'from a place on, one by one', 'the first that is otherwise'");
        SlateHalves x = new SlateHalves();
        for (int b = 0; b < 6; b++) {
            x.block(0, 0, b + 1);
        }
        bytes(x, 9, 1, 2, 3, 4, 5, 6);
        checks.due("from 1 on", x.judge(0, 1), -5);
        checks.due("from 0 on", x.judge(0, 0), 0);
        for (int b = 0; b < 6; b++) {
            bytes(x, 1, 2, 3, 4, 5, 6);
            x.item(0, b, 0);
            checks.due(b + " is 0", x.judge(0, 0), b);
            x.item(0, b, b + 2);
            x.item(0, 5, 0);
            checks.due(b + " is 1 more, and one behind it is 0", x.judge(0, 0), b);
            x.item(0, b, -b - 1);
            checks.due(b + " is below 0", x.judge(0, 0), b);
        }
        bytes(x, 1, 3);
        checks.due("otherwise, ahead of the end", x.judge(0, 0), 1);
        x.sell(1);
        bytes(x, 1, 0, 3, 4, 5, 6);
        checks.due("what is gone is 0 thick", x.judge(0, 0), -5);
        x.item(0, 1, 2);
        checks.due("what is gone is no more what it was", x.judge(0, 0), 1);
    }

    private static void imageEdges() {
        checks.begin("28, 29, 'STATE: there is none'; 'how many BLOCKS there are'");
        SlateHalves x = new SlateHalves();
        checks.due("undo()", x.undo(), -3);
        x.block(0, 0, 5);
        checks.due("undo(), still none", x.undo(), -3);
        checks.due("count(0)", x.count(0), 1);
        SlateHalves y = new SlateHalves();
        for (int many = 0; many <= 6; many++) {
            checks.due("image() of " + many, y.image(), many);
            checks.due("undo() of " + many, y.undo(), many);
            y.block(0, 0, 5);
        }
        y.sell(0);
        checks.due("image(), one gone", y.image(), 6);
        checks.due("undo(), one gone", y.undo(), 6);
        checks.due("of(0, 2), gone", y.of(0, 2), 0);
    }

    private static void undoAgain() {
        checks.begin("29, 'All is as THE IMAGE', as often as it is asked");
        SlateHalves x = Given.blocks(2, 20);
        x.image();
        for (int i = 0; i < 3; i++) {
            x.strike(0, 10);
            x.sell(1);
            x.pass(9);
            checks.due("undo()", x.undo(), 2);
            checks.due("of(0, 2)", x.of(0, 2), 20);
            checks.due("of(0, 3)", x.of(0, 3), 0);
            checks.due("of(0, 4)", x.of(0, 4), 0);
            checks.due("of(1, 2)", x.of(1, 2), 20);
            checks.due("of(2, 2)", x.of(2, 2), -1);
            checks.due("told(0)", x.told(0), 0);
            checks.due("told(4)", x.told(4), 0);
        }
        x.sell(0);
        checks.due("image(), a newer one", x.image(), 2);
        x.sell(1);
        x.undo();
        checks.due("of(0, 2), gone in the newer one", x.of(0, 2), 0);
        checks.due("of(1, 2)", x.of(1, 2), 20);
    }

    private static void undoHolds() {
        checks.begin("29, 'BLOCKS with all that is theirs, EARNED, DAY, SEEN, the WEEK, the BOOK, which HILL holds'");
        SlateHalves asIs = Given.full();
        SlateHalves x = Given.full();
        x.image();
        x.sell(0);
        x.strike(1, 1);
        x.dry(2, 99);
        x.pass(17);
        x.see(-1, 0, true);
        x.see(1, 60, true);
        x.week(-1, 0);
        x.week(1, 5);
        x.book(-1, 0);
        x.book(5, 60);
        x.undo();
        asIs.image();
        checks.holds("all is seen as it was", Sight.of(x).equals(Sight.of(asIs)));
        rowsTold(0);
        rowsTold(1);
        rowsTold(3);
        SlateHalves rows = Given.block(6, 1, 20);
        for (int part = 0; part < 4; part++) {
            rows.row(0, part, part + 1);
        }
        rows.image();
        for (int part = 0; part < 4; part++) {
            rows.row(0, part, 9);
        }
        rows.undo();
        for (int part = 0; part < 4; part++) {
            checks.due("row(0, " + part + ", 0), as it was", rows.row(0, part, 0), part + 1);
        }
    }

    /** So many rows of each that is told by hand are in THE IMAGE, then others stand there. */
    private static void rowsTold(int many) {
        SlateHalves x = Given.blocks(1, 20);
        for (int i = 0; i < many; i++) {
            x.see(9, 19 + i % 2, false);
            x.week(1 + i % 2, 0);
            x.book(0, 20);
        }
        x.image();
        x.see(-1, 0, true);
        x.week(-1, 0);
        x.book(-1, 0);
        for (int i = 0; i < 4; i++) {
            x.see(9, 20, true);
            x.week(0, 0);
            x.book(0, 19);
        }
        x.undo();
        int[] fitting = {100, 70, 0, 70};
        for (int what = 2; what <= 4; what++) {
            checks.due(many + " rows: count(" + what + ")", x.count(what), many);
        }
        checks.due(many + " rows: dryness(0, 0)", x.dryness(0, 0), fitting[many]);
        checks.due(many + " rows: ends(1)", x.ends(1), many == 0 ? 1 : 0);
        checks.due(many + " rows: looked()", x.looked(), -5);
    }

    private static void undoLeaves() {
        checks.begin("29, what THE IMAGE does not hold stays");
        SlateHalves x = Given.blocks(1, 20);
        x.image();
        checks.due("a hill", Checks.hill(x, "wind 7"), 0);
        Checks.feed(x, "thin 4");
        bytes(x, 1, 2, 3);
        x.act(0, 2, 5);
        checks.due("undo()", x.undo(), 1);
        checks.due("told(3), no HILL held", x.told(3), 1);
        checks.due("count(1)", x.count(1), 1);
        checks.due("count(5)", x.count(5), 6);
        checks.due("count(6)", x.count(6), 3);
        checks.due("trace(2)", x.trace(2), 10);
        checks.due("read(0, 2)", x.read(0, 2), 3);
        checks.due("hill(), a number of its own", x.hill(), 1);
        checks.due("told(1)", x.told(1), 4);
        checks.due("undo()", x.undo(), 1);
        checks.due("told(1), none held", x.told(1), 2);
        checks.due("count(1)", x.count(1), 2);
        checks.due("a hill", Checks.hill(x, "wind 8"), 2);
        x.image();
        checks.due("a newer one", Checks.hill(x, "wind 9"), 3);
        x.undo();
        checks.due("told(3), the one that held", x.told(3), 8);
    }

    private static void noAct(SlateHalves x, int block, int act) {
        x.act(0, 2, 5);
        String call = "act(" + block + ", " + act + ", 5)";
        checks.due(call, x.act(block, act, 5), 0);
        checks.due(call + ": count(6)", x.count(6), 0);
        checks.due(call + ": trace(0)", x.trace(0), -1);
    }

    private static void actEdges() {
        checks.begin("30, '0, and no TRACE then: no such BLOCK, act'");
        SlateHalves x = Given.blocks(1, 20);
        for (int block : new int[] {MIN, -1, 1, 5, 6, MAX}) {
            noAct(x, block, 0);
        }
        for (int act : new int[] {MIN, -1, 3, MAX}) {
            noAct(x, 0, act);
        }
        noAct(x, 1, 3);
        checks.due("no BLOCKS: act(0, 0, 5)", new SlateHalves().act(0, 0, 5), 0);
        x.sell(0);
        checks.due("act(0, 0, 5), gone", x.act(0, 0, 5), 5);
        checks.due("count(6), gone", x.count(6), 1);
    }

    /** An act of the third BLOCK, v 3, with 4. */
    private static void act(int kind, int act, int due, int... bodies) {
        SlateHalves x = Given.blocks(2, 5);
        x.block(kind, 3, 5);
        String call = "kind " + kind + ", act " + act;
        checks.due(call, x.act(2, act, 4), due);
        checks.due(call + ": count(6)", x.count(6), bodies.length);
        for (int i = 0; i < bodies.length; i++) {
            checks.due(call + ": trace(" + i + ")", x.trace(i), bodies[i]);
        }
        checks.due(call + ": trace(" + bodies.length + ")", x.trace(bodies.length), -1);
    }

    private static void actInherits() {
        checks.begin("30, 'the body of its KIND, or .. of the next KIND above that has one', super from the body's on");
        act(0, 0, 6, 10);
        act(0, 1, 3, 11, 10);
        act(0, 2, 6, 12, 11, 10);
        act(1, 0, 6, 10);
        act(1, 1, 5, 20, 11, 10);
        act(1, 2, 10, 12, 20, 11, 10);
        act(2, 0, 14, 30, 10);
        act(2, 1, 11, 11, 30, 10);
        act(2, 2, 22, 12, 11, 30, 10);
        act(3, 0, 6, 10);
        act(3, 1, 3, 11, 10);
        act(3, 2, 6, 40, 12, 11, 10, 11, 10);
        act(4, 0, -6, 50, 10);
        // rings(5) is -7, less 3, by 6: -10 ^ 6.
        act(4, 1, -10 ^ 6, 51, 20, 11, 50, 10);
        act(4, 2, (-10 ^ 6) * 2, 12, 51, 20, 11, 50, 10);
        act(5, 0, 14, 30, 10);
        act(5, 1, 11, 11, 30, 10);
        act(5, 2, 10, 60, 12, 11, 30, 10);
        // rings(4) is 6 ^ 3, 5; splits(4) that less 3, and 4; rings(1) is 3 ^ 3, 0; splits(1) that less 3, and 4.
        act(6, 0, 5, 71, 10);
        act(6, 1, 6, 70, 11, 71, 10, 10);
        act(6, 2, 13, 40, 12, 70, 11, 71, 10, 10, 70, 11, 71, 10, 10);
    }

    private static void wraps(int kind, int v, int act, int x, int due) {
        SlateHalves o = Given.blocks(5, 5);
        o.block(kind, v, 5);
        checks.due("kind " + kind + ", act " + act + ", x " + x, o.act(5, act, x), due);
    }

    private static void actWraps() {
        checks.begin("30, 'with x (wrapping)'");
        wraps(0, 0, 0, MAX - 5, MAX);
        wraps(0, 0, 0, MAX - 4, MIN);
        wraps(0, 0, 0, MAX, MIN + 4);
        wraps(0, 9, 1, MIN, MAX - 3);
        wraps(0, 9, 1, MIN + 4, MIN);
        wraps(0, 0, 2, MAX / 2 - 5, MAX - 1);
        wraps(0, 0, 2, MAX / 2 - 4, MIN);
        wraps(2, 0, 0, MAX, MIN + 2);
        wraps(2, 0, 0, 1 << 30, (3 << 30) + 5);
        wraps(4, 0, 0, MIN - 5, MIN);
        wraps(4, 0, 1, MAX, MAX - 4 ^ 6);
        wraps(5, 9, 2, MIN, ((MAX - 4) * 3 + 5 - 9) * 2);
        wraps(6, 0, 1, MAX - 5, MAX + 7);
        wraps(3, 0, 2, MAX, (MIN + 4) * 2 + 6);
    }

    private static void traceEdges() {
        checks.begin("31, 'THE TRACE's i-th body. NONE'");
        SlateHalves x = Given.block(6, 0, 5);
        for (int i : new int[] {MIN, -1, 0, 1, 19, 20, MAX}) {
            checks.due("no act yet: trace(" + i + ")", x.trace(i), -1);
        }
        x.act(0, 2, 1);
        checks.due("trace(-1)", x.trace(-1), -1);
        checks.due("trace(0)", x.trace(0), 40);
        checks.due("trace(10)", x.trace(10), 10);
        checks.due("trace(11), the last", x.trace(11), 10);
        for (int i : new int[] {MIN, 12, 13, 19, 20, MAX}) {
            checks.due("trace(" + i + ")", x.trace(i), -1);
        }
    }

    private static void traceLatest() {
        checks.begin("31, 'in the latest act()'");
        SlateHalves x = Given.block(6, 0, 5);
        x.act(0, 2, 1);
        x.act(0, 0, 1);
        checks.due("trace(1)", x.trace(1), 10);
        checks.due("trace(2), of the one ahead", x.trace(2), -1);
        checks.due("count(6)", x.count(6), 2);
        x.act(1, 0, 1);
        checks.due("trace(0), no such BLOCK", x.trace(0), -1);
        x.act(0, 1, 1);
        checks.due("trace(0)", x.trace(0), 70);
    }

    private static void takenEdges() {
        checks.begin("32, 'one of KIND k (0 .. 6), or one under that'");
        String[] lines = {"0", "01", "02", "03", "014", "025", "036"};
        for (int kind = 0; kind <= 6; kind++) {
            SlateHalves x = Given.block(kind, 0, 5);
            for (int k = 0; k <= 6; k++) {
                int due = lines[kind].indexOf((char) ('0' + k)) >= 0 ? kind : -12;
                checks.due("kind " + kind + ": taken(0, " + k + ")", x.taken(0, k), due);
            }
            checks.due("kind " + kind + ": taken(0, -1)", x.taken(0, -1), -2);
            checks.due("kind " + kind + ": taken(0, 7)", x.taken(0, 7), -2);
            checks.due("kind " + kind + ": taken(1, " + kind + ")", x.taken(1, kind), -11);
            checks.due("kind " + kind + ": taken(-1, " + kind + ")", x.taken(-1, kind), -11);
            checks.due("kind " + kind + ": taken(1, 7), BAD is named first", x.taken(1, 7), -2);
            x.sell(0);
            checks.due("kind " + kind + ": taken(0, 0), gone", x.taken(0, 0), kind);
        }
        checks.due("no BLOCKS: taken(0, 0)", new SlateHalves().taken(0, 0), -11);
        checks.due("no BLOCKS: taken(0, -1)", new SlateHalves().taken(0, -1), -2);
    }

    private static void countEdges() {
        checks.begin("33, what 0 .. 6");
        SlateHalves x = Given.full();
        x.act(4, 2, 1);
        int[] due = {6, 6, 6, 10, 8, 4, 6};
        checks.due("count(-1)", x.count(-1), -2);
        for (int what = 0; what <= 6; what++) {
            checks.due("count(" + what + ")", x.count(what), due[what]);
        }
        checks.due("count(7)", x.count(7), -2);
        checks.due("no BLOCKS: count(-1)", new SlateHalves().count(-1), -2);
        checks.due("no BLOCKS: count(7)", new SlateHalves().count(7), -2);
        for (int b = 0; b < 6; b++) {
            x.sell(b);
        }
        checks.due("count(0), all gone", x.count(0), 6);
    }

    private static void tapeEdges() {
        checks.begin("34, 'a row of n (0 .. 60) of a sort', NONE, BAD, SIZE");
        SlateHalves x = new SlateHalves();
        int[][] calls = {{-1, 0, 1, -1}, {6, 0, 1, -1}, {-1, 5, 61, -1}, {6, -1, 0, -1}, {0, -2, 1, -2}, {0, 5, 1, -2},
            {0, 5, -1, -2}, {0, -2, -1, -2}, {0, 0, 61, -2}, {0, 4, MAX, -2}, {0, 0, -1, -14}, {0, 4, MIN, -14}};
        for (int[] c : calls) {
            checks.due("tape(" + c[0] + ", " + c[1] + ", " + c[2] + ")", x.tape(c[0], c[1], c[2]), c[3]);
            checks.due("item(0, 0, 1), still nothing", x.item(0, 0, 1), -11);
        }
        for (int tape = 0; tape <= 5; tape++) {
            for (int sort = 0; sort <= 4; sort++) {
                for (int n : new int[] {60, 0, 1}) {
                    String call = "tape(" + tape + ", " + sort + ", " + n + ")";
                    checks.due(call, x.tape(tape, sort, n), 1);
                    checks.due(call + ": item, the last", x.item(tape, n - 1, 1), n == 0 ? -13 : 1);
                    checks.due(call + ": item, behind it", x.item(tape, n, 1), -13);
                }
            }
        }
    }

    private static void tapeAnew() {
        checks.begin("34, 'all 0', 'or holds nothing (sort -1: n does not matter)'");
        SlateHalves x = new SlateHalves();
        for (int sort = 0; sort <= 4; sort++) {
            x.tape(0, sort, 5);
            for (int i = 0; i < 5; i++) {
                checks.due("sort " + sort + ": read(0, " + i + ")", x.read(0, i), 0);
                x.item(0, i, 1);
            }
        }
        for (int n : new int[] {MIN, -1, 0, 60, 61, MAX}) {
            x.tape(0, 0, 5);
            checks.due("tape(0, -1, " + n + ")", x.tape(0, -1, n), 1);
            checks.due("item(0, 0, 1)", x.item(0, 0, 1), -11);
            checks.due("read(0, 0)", x.read(0, 0), NO);
            checks.due("tape(0, -1, " + n + "), again", x.tape(0, -1, n), 1);
        }
        x.tape(0, 3, 2);
        x.item(0, 1, 7);
        checks.due("tape(0, 3, 61)", x.tape(0, 3, 61), -2);
        checks.due("tape(0, 3, -1)", x.tape(0, 3, -1), -14);
        checks.due("tape(0, 5, 1)", x.tape(0, 5, 1), -2);
        checks.due("read(0, 1), as it was", x.read(0, 1), 7);
        x.tape(0, 3, 1);
        x.tape(0, 3, 2);
        checks.due("read(0, 1), anew", x.read(0, 1), 0);
    }

    private static void itemEdges() {
        checks.begin("35, NONE, NOTHING, PLACE");
        SlateHalves x = new SlateHalves();
        for (int i : new int[] {-1, 0, 60}) {
            checks.due("item(-1, " + i + ", 1)", x.item(-1, i, 1), -1);
            checks.due("item(6, " + i + ", 1)", x.item(6, i, 1), -1);
            checks.due("item(5, " + i + ", 1), nothing there", x.item(5, i, 1), -11);
        }
        x.tape(5, 3, 3);
        checks.due("item(5, -1, 1)", x.item(5, -1, 1), -13);
        checks.due("item(5, 0, 7)", x.item(5, 0, 7), 1);
        checks.due("item(5, 2, 8)", x.item(5, 2, 8), 1);
        checks.due("item(5, 3, 9)", x.item(5, 3, 9), -13);
        checks.due("item(5, MIN, 9)", x.item(5, MIN, 9), -13);
        checks.due("item(5, MAX, 9)", x.item(5, MAX, 9), -13);
        checks.due("read(5, 0)", x.read(5, 0), 7);
        checks.due("read(5, 1)", x.read(5, 1), 0);
        checks.due("read(5, 2)", x.read(5, 2), 8);
        x.tape(5, 3, 0);
        checks.due("item(5, 0, 1), a row of 0 items", x.item(5, 0, 1), -13);
    }

    private static void bits(int sort, long v, long due) {
        SlateHalves x = new SlateHalves();
        x.tape(0, sort, 1);
        checks.due("sort " + sort + ": item(0, 0, " + v + ")", x.item(0, 0, v), 1);
        checks.due("sort " + sort + ": read(0, 0) of " + v, x.read(0, 0), due);
    }

    private static void itemBits() {
        checks.begin("35, 'its lowest bits, as many as an item has; booleans: whether v is not 0'");
        bits(0, 127, 127);
        bits(0, 128, -128);
        bits(0, -128, -128);
        bits(0, -129, 127);
        bits(0, 255, -1);
        bits(0, 256, 0);
        bits(0, 1L << 32, 0);
        bits(1, 32767, 32767);
        bits(1, 32768, -32768);
        bits(1, -32769, 32767);
        bits(1, 65536, 0);
        bits(2, MAX, MAX);
        bits(2, 1L + MAX, MIN);
        bits(2, MIN - 1L, MAX);
        bits(2, 1L << 32, 0);
        bits(3, Long.MAX_VALUE, Long.MAX_VALUE);
        bits(3, Long.MIN_VALUE, Long.MIN_VALUE);
        bits(3, 1L << 32, 1L << 32);
        bits(4, 0, 0);
        bits(4, 1, 1);
        bits(4, 2, 1);
        bits(4, -1, 1);
        bits(4, 256, 1);
        bits(4, 1L << 32, 1);
        bits(4, Long.MIN_VALUE, 1);
    }

    private static void readEdges() {
        checks.begin("36, 'NO: no such TAPE, nothing there, no such place'");
        SlateHalves x = new SlateHalves();
        checks.due("read(-1, 0)", x.read(-1, 0), NO);
        checks.due("read(6, 0)", x.read(6, 0), NO);
        checks.due("read(0, 0), nothing there", x.read(0, 0), NO);
        x.tape(0, 2, 60);
        x.item(0, 59, 4);
        checks.due("read(0, -1)", x.read(0, -1), NO);
        checks.due("read(0, 0)", x.read(0, 0), 0);
        checks.due("read(0, 59)", x.read(0, 59), 4);
        checks.due("read(0, 60)", x.read(0, 60), NO);
        checks.due("read(0, MIN)", x.read(0, MIN), NO);
        checks.due("read(0, MAX)", x.read(0, MAX), NO);
        x.tape(0, 2, 59);
        checks.due("read(0, 59), shorter now", x.read(0, 59), NO);
        x.tape(5, 0, 0);
        checks.due("read(5, 0), a row of 0 items", x.read(5, 0), NO);
    }

    private static void shiftEdges() {
        checks.begin("37, 'NONE: tapes; NOTHING; CAST: of unlike sorts'");
        SlateHalves x = new SlateHalves();
        for (int sort = 0; sort <= 4; sort++) {
            x.tape(sort, sort, 3);
        }
        int[][] wrong = {{-1, 0, -1}, {0, -1, -1}, {6, 0, -1}, {0, 6, -1}, {-1, 5, -1}, {5, 6, -1}, {5, 0, -11}, {0, 5, -11},
            {5, 5, -11}};
        for (int[] w : wrong) {
            checks.due("shift(" + w[0] + ", 0, " + w[1] + ", 0, 1)", x.shift(w[0], 0, w[1], 0, 1), w[2]);
            checks.due("shift(" + w[0] + ", 9, " + w[1] + ", 9, -1)", x.shift(w[0], 9, w[1], 9, -1), w[2]);
        }
        for (int one = 0; one <= 4; one++) {
            for (int other = 0; other <= 4; other++) {
                int due = one == other ? 1 : -12;
                checks.due("shift(" + one + ", 0, " + other + ", 1, 1)", x.shift(one, 0, other, 1, 1), due);
                due = one == other ? -13 : -12;
                checks.due("shift(" + one + ", -1, " + other + ", 1, 1)", x.shift(one, -1, other, 1, 1), due);
            }
        }
    }

    private static void shiftPlaces() {
        checks.begin("37, 'PLACE: n, i or j is below 0, or beyond either's end'");
        SlateHalves x = new SlateHalves();
        x.tape(0, 2, 5);
        x.tape(1, 2, 3);
        int[][] calls = {{0, 0, 3, 3}, {2, 0, 3, 3}, {3, 0, 3, -13}, {0, 1, 3, -13}, {0, 0, 4, -13}, {0, 0, -1, -13},
            {-1, 0, 1, -13}, {0, -1, 1, -13}, {-1, 0, 0, -13}, {0, -1, 0, -13}, {5, 0, 0, 0}, {6, 0, 0, -13}, {0, 3, 0, 0},
            {0, 4, 0, -13}, {5, 3, 0, 0}, {4, 2, 1, 1}, {5, 2, 1, -13}, {4, 3, 1, -13}, {MAX, 0, 1, -13}, {0, MAX, 1, -13},
            {0, 0, MAX, -13}, {MAX, MAX, MAX, -13}, {1, 1, MAX, -13}, {MIN, 0, 1, -13}, {0, MIN, 1, -13}, {0, 0, MIN, -13},
            {MIN, MIN, MIN, -13}, {MAX, 0, MIN, -13}};
        for (int[] c : calls) {
            checks.due("shift(0, " + c[0] + ", 1, " + c[1] + ", " + c[2] + ")", x.shift(0, c[0], 1, c[1], c[2]), c[3]);
        }
        checks.due("shift(1, 0, 0, 3, 3), beyond the other's end", x.shift(1, 0, 0, 3, 3), -13);
        checks.due("shift(1, 0, 0, 2, 3)", x.shift(1, 0, 0, 2, 3), 3);
        x.tape(2, 2, 0);
        checks.due("shift(2, 0, 2, 0, 0), rows of 0 items", x.shift(2, 0, 2, 0, 0), 0);
        checks.due("shift(2, 0, 2, 0, 1)", x.shift(2, 0, 2, 0, 1), -13);
        x.tape(3, 2, 60);
        checks.due("shift(3, 0, 3, 0, 60), all of it", x.shift(3, 0, 3, 0, 60), 60);
        checks.due("shift(3, 1, 3, 0, 60)", x.shift(3, 1, 3, 0, 60), -13);
    }

    private static void row(SlateHalves x, int tape, String due) {
        StringBuilder is = new StringBuilder();
        for (int i = 0; x.read(tape, i) != NO; i++) {
            is.append(x.read(tape, i));
        }
        checks.holds("TAPE " + tape + " is " + is + ", due is " + due, is.toString().equals(due));
    }

    private static void shiftOverlaps() {
        checks.begin("37, 'another one (or the same) .. as they all were before'");
        int[][] calls = {{0, 1, 4}, {1, 0, 4}, {0, 2, 3}, {2, 0, 3}, {0, 0, 5}, {3, 1, 2}, {4, 0, 1}, {2, 2, 0}};
        String[] due = {"11234", "23455", "12123", "34545", "12345", "14545", "52345", "12345"};
        for (int sort = 0; sort <= 3; sort++) {
            for (int k = 0; k < calls.length; k++) {
                SlateHalves x = new SlateHalves();
                x.tape(0, sort, 5);
                x.tape(1, sort, 5);
                for (int i = 0; i < 5; i++) {
                    x.item(0, i, i + 1);
                }
                x.shift(0, 0, 1, 0, 5);
                int[] c = calls[k];
                checks.due("shift(0, " + c[0] + ", 0, " + c[1] + ", " + c[2] + ")", x.shift(0, c[0], 0, c[1], c[2]), c[2]);
                row(x, 0, due[k]);
                row(x, 1, "12345");
                x.shift(1, 3, 0, 0, 2);
                row(x, 0, "45" + due[k].substring(2));
            }
        }
        SlateHalves flags = new SlateHalves();
        flags.tape(0, 4, 4);
        flags.item(0, 0, 9);
        flags.shift(0, 0, 0, 1, 3);
        row(flags, 0, "1100");
    }
}

/** The edges that the document names for promises 1 to 8, a test for each sentence of it. */
public final class EdgesOfBlocksTest {
    private static final Checks checks = new Checks();

    public static void main(String[] args) {
        newObject();
        numbers();
        blockEdges();
        blockAtFirst();
        ofEdges();
        grip();
        gripLeast();
        dries();
        cleanByGrip();
        cleanVein();
        cleanKnot();
        cleanHard();
        cleanTold();
        rowAtFirst();
        rowEdges();
        rowDays();
        worthEdges();
        worthHalf();
        best();
        bestOfNow();
        few();
        many();
        halves();
        blow();
        whatIsGone();
        dryEdges();
        strikeEdges();
        strikeClean();
        strikeGreater();
        strikeRoom();
        cleanEdges();
        sellEdges();
        checks.end();
    }

    private static void newObject() {
        checks.begin("1, 'No BLOCKS, no HILL' and what is so at first");
        SlateHalves x = new SlateHalves();
        for (int what = 0; what <= 6; what++) {
            checks.due("count(" + what + ")", x.count(what), 0);
        }
        int[] told = {0, 2, 5, 1, 0, 0};
        for (int what = 0; what < told.length; what++) {
            checks.due("told(" + what + ")", x.told(what), told[what]);
        }
        for (int tape = 0; tape <= 5; tape++) {
            checks.due("item(" + tape + ", 0, 1), TAPES hold nothing", x.item(tape, 0, 1), -11);
            checks.due("read(" + tape + ", 0)", x.read(tape, 0), SlateHalves.NO);
        }
        checks.due("of(0, 0)", x.of(0, 0), -1);
        checks.due("trace(0)", x.trace(0), -1);
        checks.due("undo(), no IMAGE", x.undo(), -3);
        checks.due("image()", x.image(), 0);
        checks.due("hill(), THE TEXT is empty", x.hill(), -10);
    }

    private static void numbers() {
        checks.begin("2, 'BLOCKS 0 .. 5, as they come'");
        SlateHalves x = new SlateHalves();
        for (int i = 0; i <= 5; i++) {
            checks.due("of(" + i + ", 2), not yet there", x.of(i, 2), -1);
            checks.due("block(0, 0, " + (i + 7) + ")", x.block(0, 0, i + 7), i);
            checks.due("of(" + i + ", 2)", x.of(i, 2), i + 7);
            checks.due("count(0)", x.count(0), i + 1);
        }
        checks.due("block, the 7th", x.block(0, 0, 7), -4);
        checks.due("of(6, 2)", x.of(6, 2), -1);
        checks.due("of(-1, 2)", x.of(-1, 2), -1);
        for (int i = 0; i <= 5; i++) {
            x.sell(i);
        }
        checks.due("block, the 7th, all gone", x.block(0, 0, 7), -4);
        checks.due("count(0), all gone", x.count(0), 6);
    }

    private static void blockEdges() {
        checks.begin("2, kind 0 .. 6");
        checks.due("kind -1", new SlateHalves().block(-1, 0, 1), -1);
        for (int kind = 0; kind <= 6; kind++) {
            SlateHalves x = new SlateHalves();
            checks.due("kind " + kind, x.block(kind, 0, 1), 0);
            checks.due("kind " + kind + ": of(0, 0)", x.of(0, 0), kind);
        }
        checks.due("kind 7", new SlateHalves().block(7, 0, 1), -1);
        checks.begin("2, v 0 .. 9");
        checks.due("v -1", new SlateHalves().block(0, -1, 1), -2);
        for (int v = 0; v <= 9; v++) {
            SlateHalves x = new SlateHalves();
            checks.due("v " + v, x.block(0, v, 1), 0);
            checks.due("v " + v + ": of(0, 1)", x.of(0, 1), v);
        }
        checks.due("v 10", new SlateHalves().block(0, 10, 1), -2);
        checks.begin("2, thick 1 .. 60");
        checks.due("thick 0", new SlateHalves().block(0, 0, 0), -2);
        for (int thick : new int[] {1, 2, 59, 60}) {
            SlateHalves x = new SlateHalves();
            checks.due("thick " + thick, x.block(0, 0, thick), 0);
            checks.due("thick " + thick + ": of(0, 2)", x.of(0, 2), thick);
        }
        checks.due("thick 61", new SlateHalves().block(0, 0, 61), -2);
    }

    private static void blockAtFirst() {
        checks.begin("2, 'DRY 0 at first, SPLIT 0 at first', also where another one stood");
        SlateHalves x = Given.block(6, 9, 60);
        freshBlock(x);
        x.image();
        x.block(6, 9, 60);
        x.row(1, 2, 7);
        x.dry(1, 99);
        x.strike(1, 1);
        x.undo();
        x.block(6, 9, 60);
        checks.due("of(1, 3)", x.of(1, 3), 0);
        checks.due("of(1, 4)", x.of(1, 4), 0);
        checks.due("row(1, 2, 0)", x.row(1, 2, 0), 0);
        SlateHalves y = new SlateHalves();
        y.pass(30);
        y.block(6, 9, 60);
        checks.begin("2, DRY 0 at first on a later DAY");
        freshBlock(y);
    }

    private static void freshBlock(SlateHalves x) {
        checks.due("of(0, 3)", x.of(0, 3), 0);
        checks.due("of(0, 4)", x.of(0, 4), 0);
        for (int part = 0; part < 4; part++) {
            checks.due("row(0, " + part + ", 0)", x.row(0, part, 0), 0);
        }
    }

    private static void ofEdges() {
        checks.begin("3, what 0 .. 13");
        SlateHalves x = Given.block(0, 0, 3);
        checks.due("of(0, -1)", x.of(0, -1), -1);
        int[] due = {0, 0, 3, 0, 0, 10, 3, 1, 10, 10, 0, 1, 10, 0};
        for (int what = 0; what <= 13; what++) {
            checks.due("of(0, " + what + ")", x.of(0, what), due[what]);
        }
        checks.due("of(0, 14)", x.of(0, 14), -1);
        checks.due("of(-1, 13)", x.of(-1, 13), -1);
        checks.due("of(1, 13)", x.of(1, 13), -1);
    }

    private static void grip() {
        checks.begin("3, 'FINE, HARD: 3, and v by 3 (cut) more', the others 3");
        int[] firm = {3, 3, 3, 4, 4, 4, 5, 5, 5, 6};
        for (int kind = 0; kind <= 6; kind++) {
            for (int v = 0; v <= 9; v++) {
                int due = kind == 1 || kind == 4 ? firm[v] : 3;
                checks.due("kind " + kind + ", v " + v, Given.block(kind, v, 5).of(0, 6), due);
            }
        }
    }

    private static void gripLeast() {
        checks.begin("3, 'the tenth (cut) of DRY is taken off that (0 at least)'");
        int[] drys = {0, 9, 10, 19, 20, 29, 30, 39, 40, 99};
        int[] plain = {3, 3, 2, 2, 1, 1, 0, 0, 0, 0};
        for (int i = 0; i < drys.length; i++) {
            for (int kind : new int[] {0, 2, 3, 5, 6}) {
                checks.due("kind " + kind + ", DRY " + drys[i], Given.dryBlock(kind, 9, 5, drys[i]).of(0, 6), plain[i]);
            }
        }
        for (int kind : new int[] {1, 4}) {
            checks.due("kind " + kind + ", v 9, DRY 59", Given.dryBlock(kind, 9, 5, 59).of(0, 6), 1);
            checks.due("kind " + kind + ", v 9, DRY 60", Given.dryBlock(kind, 9, 5, 60).of(0, 6), 0);
            checks.due("kind " + kind + ", v 9, DRY 70", Given.dryBlock(kind, 9, 5, 70).of(0, 6), 0);
            checks.due("kind " + kind + ", v 2, DRY 30", Given.dryBlock(kind, 2, 5, 30).of(0, 6), 0);
            checks.due("kind " + kind + ", v 3, DRY 30", Given.dryBlock(kind, 3, 5, 30).of(0, 6), 1);
        }
    }

    private static void dries() {
        checks.begin("3, 'DRIES: WIND; WET: the half (cut) of that'");
        int[] winds = {0, 1, 2, 3, 98, 99};
        int[] halves = {0, 0, 1, 1, 49, 49};
        for (int i = 0; i < winds.length; i++) {
            for (int kind = 0; kind <= 6; kind++) {
                int due = kind == 5 ? halves[i] : winds[i];
                checks.due("kind " + kind + ", wind " + winds[i], Given.blockBy("wind " + winds[i], kind, 9, 5).of(0, 7), due);
            }
        }
    }

    private static void cleanByGrip() {
        checks.begin("7, 'if twice x and t are no more than GRIP apart', on both sides");
        for (int grip = 0; grip <= 6; grip++) {
            SlateHalves x = Given.dryBlock(1, 9, 5, 60 - 10 * grip);
            int t = 30 + grip % 2;
            checks.due("GRIP " + grip + ", as far below", x.clean(0, t, (t - grip) / 2), 1);
            checks.due("GRIP " + grip + ", as far above", x.clean(0, t, (t + grip) / 2), 1);
            checks.due("GRIP " + grip + ", two farther below", x.clean(0, t, (t - grip) / 2 - 1), 0);
            checks.due("GRIP " + grip + ", two farther above", x.clean(0, t, (t + grip) / 2 + 1), 0);
            int u = 31 - grip % 2;
            checks.due("GRIP " + grip + ", one farther below", x.clean(0, u, (u - grip - 1) / 2), 0);
            checks.due("GRIP " + grip + ", one farther above", x.clean(0, u, (u + grip + 1) / 2), 0);
        }
        checks.begin("7, GRIP 3 of each KIND");
        for (int kind = 0; kind <= 6; kind++) {
            SlateHalves x = Given.block(kind, 0, 5);
            checks.due("kind " + kind + ", 3 below", x.clean(0, 21, 9), 1);
            checks.due("kind " + kind + ", 4 below", x.clean(0, 20, 8), 0);
            checks.due("kind " + kind + ", 3 above", x.clean(0, 21, 12), 1);
            checks.due("kind " + kind + ", 4 above", x.clean(0, 20, 12), 0);
        }
    }

    private static void cleanVein() {
        checks.begin("7, 'VEINED, WET: if so, or if x is v and 1'");
        for (int kind : new int[] {2, 5}) {
            for (int v = 0; v <= 9; v++) {
                SlateHalves x = Given.dryBlock(kind, v, 5, 99);
                if (v > 0) {
                    checks.due("kind " + kind + ", v " + v + ", x " + v, x.clean(0, 60, v), 0);
                }
                checks.due("kind " + kind + ", v " + v + ", x " + (v + 1), x.clean(0, 60, v + 1), 1);
                checks.due("kind " + kind + ", v " + v + ", x " + (v + 2), x.clean(0, 60, v + 2), 0);
                checks.due("kind " + kind + ", v " + v + ", in the half", x.clean(0, 60, 30), 1);
                checks.due("kind " + kind + ", v " + v + ", vein and half are one", x.clean(0, 2 * v + 2, v + 1), 1);
            }
        }
    }

    private static void cleanKnot() {
        checks.begin("7, 'KNOTTY: if so, and x is not v and 1'; 'TOLD: as KNOTTY'");
        for (int kind : new int[] {3, 6}) {
            for (int v = 0; v <= 9; v++) {
                SlateHalves x = Given.block(kind, v, 5);
                int half = v + 1;
                checks.due("kind " + kind + ", v " + v + ", the knot", x.clean(0, 2 * half, half), 0);
                checks.due("kind " + kind + ", v " + v + ", the knot, 3 below the half", x.clean(0, 2 * half + 3, half), 0);
                if (v > 0) {
                    checks.due("kind " + kind + ", v " + v + ", ahead of it", x.clean(0, 2 * half, half - 1), 1);
                    checks.due("kind " + kind + ", v " + v + ", behind it", x.clean(0, 2 * half, half + 1), 1);
                }
                checks.due("kind " + kind + ", v " + v + ", no knot, not near", x.clean(0, 60, half), 0);
                checks.due("kind " + kind + ", v " + v + ", in the half", x.clean(0, 60, 30), 1);
            }
        }
    }

    private static void cleanHard() {
        checks.begin("7, 'HARD: if so, and t is 4 or more'");
        SlateHalves x = Given.block(4, 0, 60);
        checks.due("t 2", x.clean(0, 2, 1), 0);
        checks.due("t 3, x 1", x.clean(0, 3, 1), 0);
        checks.due("t 3, x 2", x.clean(0, 3, 2), 0);
        for (int at = 1; at <= 3; at++) {
            checks.due("t 4, x " + at, x.clean(0, 4, at), 1);
        }
        checks.due("t 5, x 1", x.clean(0, 5, 1), 1);
        checks.due("t 6, x 1, not so", x.clean(0, 6, 1), 0);
        SlateHalves fine = Given.block(1, 0, 60);
        checks.due("FINE, t 2", fine.clean(0, 2, 1), 1);
        checks.due("FINE, t 3, x 1", fine.clean(0, 3, 1), 1);
    }

    private static void cleanTold() {
        checks.begin("7, 'TOLD: .. twice x and what t and its ROW .. are together are looked at'");
        for (int n = 0; n <= 9; n++) {
            SlateHalves x = Given.dryBlock(6, 0, 60, 30);
            x.row(0, 0, n);
            int t = 20 + n % 2;
            int half = (t + n) / 2;
            checks.due("ROW " + n + ", GRIP 0, there", x.clean(0, t, half), 1);
            checks.due("ROW " + n + ", GRIP 0, one ahead", x.clean(0, t, half - 1), 0);
            checks.due("ROW " + n + ", GRIP 0, one behind", x.clean(0, t, half + 1), 0);
            checks.due("ROW " + n + ", GRIP 0, one thicker", x.clean(0, t + 1, half), 0);
            x.dry(0, 0);
            checks.due("ROW " + n + ", 3 below", x.clean(0, t + 1, half - 1), 1);
            checks.due("ROW " + n + ", 4 below", x.clean(0, t, half - 2), 0);
            checks.due("ROW " + n + ", 3 above", x.clean(0, t + 1, half + 2), 1);
            checks.due("ROW " + n + ", 4 above", x.clean(0, t, half + 2), 0);
        }
        SlateHalves thin = Given.block(6, 9, 60);
        thin.row(0, 0, 9);
        checks.due("ROW 9, t 2, x 1: 9 apart", thin.clean(0, 2, 1), 0);
        checks.due("ROW 9, t 11, x 10, a knot", thin.clean(0, 11, 10), 0);
        checks.due("ROW 9, t 12, x 11: 1 apart", thin.clean(0, 12, 11), 1);
    }

    private static void rowAtFirst() {
        checks.begin("5, 'four numbers 0 .. 9; 0 at first'");
        SlateHalves x = Given.block(6, 0, 5);
        for (int part = 0; part < 4; part++) {
            checks.due("row(0, " + part + ", 5), 0 at first", x.row(0, part, part + 5), 0);
        }
        for (int part = 0; part < 4; part++) {
            checks.due("row(0, " + part + ", 0), what it was", x.row(0, part, 0), part + 5);
        }
    }

    private static void rowEdges() {
        checks.begin("5, part 0 .. 3, n 0 .. 9, a TOLD one");
        SlateHalves x = Given.block(6, 0, 5);
        x.sell(0);
        checks.due("row(0, -1, 0)", x.row(0, -1, 0), -1);
        checks.due("row(0, 4, 0)", x.row(0, 4, 0), -1);
        checks.due("row(0, 0, -1)", x.row(0, 0, -1), -2);
        checks.due("row(0, 0, 9), also of what is gone", x.row(0, 0, 9), 0);
        checks.due("row(0, 0, 10)", x.row(0, 0, 10), -2);
        checks.due("row(0, 0, 0)", x.row(0, 0, 0), 9);
        checks.due("row(0, 3, 1)", x.row(0, 3, 1), 0);
        checks.due("row(-1, 0, 1)", x.row(-1, 0, 1), -1);
        checks.due("row(1, 0, 1)", x.row(1, 0, 1), -1);
        for (int kind = 0; kind <= 5; kind++) {
            SlateHalves y = Given.block(kind, 0, 5);
            checks.due("kind " + kind + ": row(0, 0, 1)", y.row(0, 0, 1), -3);
            checks.due("kind " + kind + ": row(0, 0, 10)", y.row(0, 0, 10), -2);
            checks.due("kind " + kind + ": row(0, 4, 1)", y.row(0, 4, 1), -1);
        }
    }

    private static void rowDays() {
        checks.begin("5, 'for DAYS modulo 4 being part'");
        SlateHalves x = Given.block(6, 0, 60);
        Checks.hill(x, "wind 0");
        x.dry(0, 30);
        for (int part = 0; part < 4; part++) {
            x.row(0, part, 2 * part + 2);
        }
        for (int day = 0; day <= 9; day++) {
            int due = 11 + day % 4;
            checks.due("DAY " + day + ", clean(0, 20, " + due + ")", x.clean(0, 20, due), 1);
            checks.due("DAY " + day + ", clean(0, 20, " + (due - 1) + ")", x.clean(0, 20, due - 1), 0);
            checks.due("DAY " + day + ", clean(0, 20, " + (due + 1) + ")", x.clean(0, 20, due + 1), 0);
            x.pass(1);
        }
    }

    private static void worthEdges() {
        checks.begin("3, WORTH: 'PRICE, if t is THIN .. MOST; the half, if .. no more than twice MOST; else 0'");
        worths("thin 2;thick 5", "1:0 2:10 3:10 4:10 5:10 6:5 9:5 10:5 11:0 12:0 60:0");
        worths("thin 3;thick 3", "1:0 2:0 3:10 4:5 5:5 6:5 7:0");
        worths("thin 1;thick 1", "1:10 2:5 3:0 4:0");
        worths("thin 60;thick 60", "1:0 59:0 60:10");
        worths("thin 61", "1:0 60:0");
        worths("thick 30", "30:10 31:5 59:5 60:5");
        worths("thick 29", "29:10 30:5 57:5 58:5 59:0 60:0");
        worths("thick 99", "1:0 2:10 60:10");
    }

    private static void worths(String hill, String due) {
        for (String one : due.split(" ")) {
            int t = Integer.parseInt(one.substring(0, one.indexOf(':')));
            int worth = Integer.parseInt(one.substring(one.indexOf(':') + 1));
            checks.due(hill + ", t " + t, Given.blockBy(hill, 0, 0, t).of(0, 8), worth);
        }
    }

    private static void worthHalf() {
        checks.begin("3, 'the half (cut) of that'");
        checks.due("PRICE 11", Given.blockBy("dear 1 b=0", 0, 0, 6).of(0, 8), 5);
        checks.due("PRICE 12", Given.blockBy("dear 2 b=0", 0, 0, 6).of(0, 8), 6);
        checks.due("PRICE 1", Given.blockBy("cheap 9 b=0", 0, 0, 6).of(0, 8), 0);
        checks.due("PRICE 0", Given.blockBy("cheap 10 b=0", 0, 0, 5).of(0, 8), 0);
    }

    private static void best() {
        checks.begin("3, BEST: 'by any blows (none, too)'");
        checks.due("THIN less 1", Given.block(0, 0, 1).of(0, 9), 0);
        checks.due("THIN, none", Given.block(0, 0, 2).of(0, 9), 10);
        checks.due("3, none", Given.block(0, 0, 3).of(0, 9), 10);
        checks.due("two slates", Given.block(0, 0, 4).of(0, 9), 20);
        checks.due("30 slates", Given.block(0, 0, 60).of(0, 9), 300);
        // Never CLEAN but in the half, and 7 has none: 6, and that 3 and 3.
        checks.due("GRIP 0", Given.dryBlock(0, 0, 7, 99).of(0, 9), 20);
        SlateHalves half = Given.blockBy("thin 60;thick 60", 0, 0, 59);
        checks.due("no slate in it", half.of(0, 9), 0);
        SlateHalves more = Given.blockBy("thin 9;thick 9", 0, 0, 10);
        checks.due("one less thick is worth more", more.of(0, 9), 10);
        checks.begin("3, BEST of a TOLD one, by the DAY's ROW");
        SlateHalves told = Given.blockBy("thin 1;thick 3", 6, 9, 4);
        told.dry(0, 30);
        told.row(0, 0, 2);
        // Twice 3 is 4 and 2: so 3 and 1. Without the ROW it is 2 and 2, or in the half of 2 again.
        int[] leaning = {20, 1, 2, 10, 3};
        for (int what = 9; what <= 13; what++) {
            checks.due("leaning: of(0, " + what + ")", told.of(0, what), leaning[what - 9]);
        }
        told.row(0, 0, 0);
        int[] plain = {40, 3, 4, 20, 2};
        for (int what = 9; what <= 13; what++) {
            checks.due("not leaning: of(0, " + what + ")", told.of(0, what), plain[what - 9]);
        }
        checks.begin("3, BEST by the PRICE of its BLOCK, whatever the pieces are");
        checks.due("t by 10", Given.blockBy("dear 5 t=1;cheap 3 t=0", 0, 0, 10).of(0, 9), 75);
    }

    private static void bestOfNow() {
        checks.begin("3, BEST, with a vein at t, where there is no blow, whatever it was before");
        SlateHalves x = Given.blockBy("dear 90 y=0;thin 4;thick 4", 2, 3, 4);
        for (int what = 9; what <= 13; what++) {
            x.of(0, what);
        }
        checks.due("of(0, 9), dear", x.of(0, 9), 100);
        x.pass(1);
        checks.due("of(0, 9), no more", x.of(0, 9), 10);
        checks.due("of(0, 10)", x.of(0, 10), 0);
        checks.due("of(0, 11)", x.of(0, 11), 1);
        checks.due("of(0, 13)", x.of(0, 13), 0);
        Checks.hill(x, "thin 5");
        checks.due("of(0, 9), too thin", x.of(0, 9), 0);
        checks.due("of(0, 11), too thin", x.of(0, 11), 0);
        checks.due("of(0, 12), too thin", x.of(0, 12), 0);
    }

    private static void few() {
        checks.begin("3, FEW: 'by how few blows'");
        checks.due("none of a slate", Given.block(0, 0, 3).of(0, 10), 0);
        checks.due("none of what is worth nothing", Given.block(0, 0, 1).of(0, 10), 0);
        checks.due("one", Given.block(0, 0, 4).of(0, 10), 1);
        checks.due("none, as PRICE is 0", Given.blockBy("cheap 10 b=0", 0, 0, 60).of(0, 10), 0);
        checks.due("29 for 30 slates", Given.block(0, 0, 60).of(0, 10), 29);
        checks.due("59 for 60 slates", Given.blockBy("thin 1;thick 1", 1, 9, 60).of(0, 10), 59);
        // 6 and 7 by one blow; by the least x, which is BLOW, it is 12 first, and then 6 and 6.
        checks.due("the fewest", Given.blockBy("thin 6;thick 7", 0, 0, 13).of(0, 10), 1);
        checks.due("the least x", Given.blockBy("thin 6;thick 7", 0, 0, 13).of(0, 13), 1);
        checks.due("a blow that is not CLEAN counts", Given.blockBy("thin 6;thick 6", 4, 0, 7).of(0, 10), 1);
    }

    private static void many() {
        checks.begin("3, MANY: 'the greatest number of SLATES'");
        checks.due("THIN less 1", Given.block(0, 0, 1).of(0, 11), 0);
        checks.due("THIN", Given.block(0, 0, 2).of(0, 11), 1);
        checks.due("MOST", Given.blockBy("thin 5", 0, 0, 5).of(0, 11), 1);
        // Thicker than MOST it is no SLATE, though it is worth the half.
        checks.due("MOST and 1", Given.blockBy("thin 5;thick 5", 0, 0, 6).of(0, 11), 1);
        checks.due("10, twice MOST", Given.blockBy("thin 5;thick 5", 0, 0, 10).of(0, 11), 2);
        checks.due("60", Given.block(0, 0, 60).of(0, 11), 30);
        checks.due("60, PRICE 0", Given.blockBy("cheap 99 b=0", 0, 0, 60).of(0, 11), 30);
        checks.due("60, PRICE 1", Given.blockBy("cheap 9 b=0", 0, 0, 60).of(0, 11), 30);
        checks.due("60, none is so thick", Given.blockBy("thin 61", 0, 0, 60).of(0, 11), 0);
    }

    private static void halves() {
        checks.begin("3, HALVES: 'if t is MOST or less, its WORTH'");
        checks.due("1", Given.block(0, 0, 1).of(0, 12), 0);
        checks.due("MOST", Given.block(0, 0, 5).of(0, 12), 10);
        checks.due("THIN less 1", Given.blockBy("thin 5", 0, 0, 4).of(0, 12), 0);
        checks.begin("3, HALVES: 'behind a blow at the half (cut) of t'");
        checks.due("MOST and 1", Given.block(0, 0, 6).of(0, 12), 20);
        checks.due("7, CLEAN at 3", Given.block(0, 0, 7).of(0, 12), 20);
        checks.due("7, not CLEAN at 3", Given.dryBlock(0, 0, 7, 30).of(0, 12), 10);
        checks.due("7, a knot at 3", Given.block(3, 2, 7).of(0, 12), 10);
        checks.due("7, a knot at 4", Given.block(3, 3, 7).of(0, 12), 20);
        checks.due("10, twice MOST", Given.block(0, 0, 10).of(0, 12), 20);
        checks.due("11 by 5 and 6, 3 and 3", Given.block(0, 0, 11).of(0, 12), 30);
        checks.due("2, MOST 1", Given.blockBy("thin 1;thick 1", 0, 0, 2).of(0, 12), 20);
        checks.due("3, MOST 1", Given.blockBy("thin 1;thick 1", 0, 0, 3).of(0, 12), 30);
        checks.due("3, MOST 1, HARD: 2, then 1", Given.blockBy("thin 1;thick 1", 4, 0, 3).of(0, 12), 10);
        checks.due("60, MOST 1", Given.blockBy("thin 1;thick 1", 0, 0, 60).of(0, 12), 600);
    }

    private static void blow() {
        checks.begin("3, BLOW: '0: BEST is its WORTH as it is'");
        checks.due("a slate", Given.block(0, 0, 3).of(0, 13), 0);
        checks.due("dust", Given.block(0, 0, 1).of(0, 13), 0);
        checks.due("PRICE 0", Given.blockBy("cheap 10 b=0", 0, 0, 60).of(0, 13), 0);
        checks.due("as much by a blow", Given.blockBy("thin 3", 0, 0, 4).of(0, 13), 0);
        checks.begin("3, BLOW: 'the least x of a blow'");
        checks.due("4, as 2 and 2", Given.block(0, 0, 4).of(0, 13), 2);
        checks.due("5, 1 off and then 2 and 2", Given.block(0, 0, 5).of(0, 13), 1);
        checks.due("6, the first that is CLEAN", Given.block(0, 0, 6).of(0, 13), 2);
        checks.due("the last x", Given.blockBy("thin 2;thick 2", 3, 0, 3).of(0, 13), 1);
        checks.due("2 thick, MOST 1", Given.blockBy("thin 1;thick 1", 0, 0, 2).of(0, 13), 1);
        // A knot at 1 spoils the only blow: 1 is left of it, worth more than the half of 2.
        checks.due("2 thick, MOST 1, a knot", Given.blockBy("thin 1;thick 1", 3, 0, 2).of(0, 13), 1);
        checks.due("the same, BEST", Given.blockBy("thin 1;thick 1", 3, 0, 2).of(0, 9), 10);
        SlateHalves told = Given.blockBy("thin 1;thick 1;wind 0", 6, 9, 4);
        told.row(0, 0, 4);
        told.dry(0, 20);
        // GRIP 1, and 2, 4 and 6 are 6, 4 and 2 apart from 8: each blow leaves one piece, at last 1.
        checks.due("TOLD, 4 thick, none is CLEAN", told.of(0, 13), 1);
        checks.due("TOLD, BEST", told.of(0, 9), 10);
    }

    private static void whatIsGone() {
        checks.begin("3, '0: it is gone'; 'of one that is gone 0'");
        for (String hill : new String[] {"thin 1;thick 60", "thin 0;thick 0", "dear 99 t=0"}) {
            SlateHalves x = Given.blockBy(hill, 0, 0, 20);
            x.sell(0);
            checks.due(hill + ": THICK", x.of(0, 2), 0);
            for (int what = 8; what <= 13; what++) {
                checks.due(hill + ": of(0, " + what + ")", x.of(0, what), 0);
            }
        }
        SlateHalves gone = Given.blockBy("dear 99 t=0;wind 7", 1, 9, 20);
        gone.sell(0);
        checks.due("PRICE of what is gone", gone.of(0, 5), 109);
        checks.due("GRIP of what is gone", gone.of(0, 6), 6);
        checks.due("DRIES of what is gone", gone.of(0, 7), 7);
        checks.due("KIND of what is gone", gone.of(0, 0), 1);
        checks.due("v of what is gone", gone.of(0, 1), 9);
    }

    private static void dryEdges() {
        checks.begin("4, n 0 .. 99");
        SlateHalves x = Given.block(0, 0, 5);
        checks.due("dry(0, -1)", x.dry(0, -1), -2);
        checks.due("dry(0, 0)", x.dry(0, 0), 0);
        checks.due("dry(0, 1)", x.dry(0, 1), 0);
        checks.due("dry(0, 99)", x.dry(0, 99), 1);
        checks.due("dry(0, 100)", x.dry(0, 100), -2);
        checks.due("of(0, 3)", x.of(0, 3), 99);
        checks.due("dry(0, 0)", x.dry(0, 0), 99);
        checks.due("dry(1, 5)", x.dry(1, 5), -1);
        checks.due("dry(-1, 5)", x.dry(-1, 5), -1);
        x.sell(0);
        checks.due("dry(0, 5), gone", x.dry(0, 5), 0);
        checks.due("of(0, 3), gone", x.of(0, 3), 5);
    }

    private static void strikeEdges() {
        checks.begin("6, x 1 .. t less 1");
        SlateHalves x = Given.block(0, 0, 9);
        checks.due("strike(0, 0)", x.strike(0, 0), -2);
        checks.due("strike(0, 9)", x.strike(0, 9), -2);
        checks.due("strike(0, 10)", x.strike(0, 10), -2);
        checks.due("strike(0, 8), the last", x.strike(0, 8), 0);
        checks.due("of(0, 2)", x.of(0, 2), 8);
        checks.due("strike(0, 8), now too far", x.strike(0, 8), -2);
        checks.due("strike(0, 1), the first", x.strike(0, 1), 0);
        checks.due("of(0, 2)", x.of(0, 2), 7);
        checks.due("of(0, 4), 'SPLIT is 1 more'", x.of(0, 4), 2);
        checks.due("strike(1, 1), none there", x.strike(1, 1), -1);
        SlateHalves thin = Given.block(0, 0, 1);
        checks.due("1 thick, strike(0, 1)", thin.strike(0, 1), -2);
        checks.due("1 thick, strike(0, 0)", thin.strike(0, 0), -2);
        SlateHalves gone = Given.block(0, 0, 9);
        gone.sell(0);
        for (int at = -1; at <= 1; at++) {
            checks.due("gone, strike(0, " + at + ")", gone.strike(0, at), -2);
        }
        SlateHalves two = Given.block(0, 0, 2);
        checks.due("2 thick, strike(0, 1)", two.strike(0, 1), 1);
        checks.due("2 thick: of(0, 2)", two.of(0, 2), 1);
        checks.due("2 thick: of(1, 2)", two.of(1, 2), 1);
    }

    private static void strikeClean() {
        checks.begin("6, 'if that is CLEAN, its THICK is x, and there is a new BLOCK, the last one'");
        SlateHalves x = Given.block(6, 7, 21);
        x.row(0, 1, 4);
        x.row(0, 3, 9);
        x.dry(0, 12);
        x.block(0, 0, 5);
        checks.due("strike(0, 1)", x.strike(0, 1), 0);
        checks.due("strike(0, 11)", x.strike(0, 11), 1);
        checks.due("count(0)", x.count(0), 3);
        int[] struck = {6, 7, 11, 12, 2};
        int[] made = {6, 7, 9, 12, 0};
        for (int what = 0; what <= 4; what++) {
            checks.due("of(0, " + what + ")", x.of(0, what), struck[what]);
            checks.due("of(2, " + what + "), the new one", x.of(2, what), made[what]);
        }
        checks.due("of(1, 2), the other one", x.of(1, 2), 5);
        int[] row = {0, 4, 0, 9};
        for (int part = 0; part < 4; part++) {
            checks.due("row(2, " + part + ", 1), alike", x.row(2, part, 1), row[part]);
            checks.due("row(0, " + part + ", 0), of its own", x.row(0, part, 0), row[part]);
        }
        x.dry(0, 50);
        checks.due("of(2, 3), of its own", x.of(2, 3), 12);
    }

    private static void strikeGreater() {
        checks.begin("6, 'if not, its THICK is the greater of both'");
        for (int at : new int[] {1, 8, 12, 19}) {
            SlateHalves x = Given.block(0, 0, 20);
            checks.due("strike(0, " + at + ")", x.strike(0, at), 0);
            checks.due("of(0, 2) behind " + at, x.of(0, 2), Math.max(at, 20 - at));
            checks.due("count(0) behind " + at, x.count(0), 1);
        }
        SlateHalves even = Given.block(3, 9, 20);
        checks.due("a knot in the half, strike(0, 10)", even.strike(0, 10), 0);
        checks.due("both are alike: of(0, 2)", even.of(0, 2), 10);
        SlateHalves hard = Given.block(4, 0, 3);
        checks.due("HARD, strike(0, 1)", hard.strike(0, 1), 0);
        checks.due("HARD: of(0, 2)", hard.of(0, 2), 2);
    }

    private static void strikeRoom() {
        checks.begin("6, 'FULL: it would be CLEAN, and there are 6'");
        SlateHalves x = Given.blocks(5, 20);
        checks.due("five: strike(0, 10), CLEAN", x.strike(0, 10), 1);
        checks.due("count(0)", x.count(0), 6);
        checks.due("six: strike(1, 10), CLEAN", x.strike(1, 10), -4);
        checks.due("of(1, 2)", x.of(1, 2), 20);
        checks.due("of(1, 4)", x.of(1, 4), 0);
        checks.due("six: strike(1, 7), not CLEAN", x.strike(1, 7), 0);
        checks.due("of(1, 2)", x.of(1, 2), 13);
        checks.due("of(1, 4)", x.of(1, 4), 1);
        checks.due("six: strike(1, 13), no such x", x.strike(1, 13), -2);
        x.sell(3);
        checks.due("six, one gone: strike(2, 10)", x.strike(2, 10), -4);
        checks.due("count(0)", x.count(0), 6);
    }

    private static void cleanEdges() {
        checks.begin("7, t 2 .. 60, x 1 .. t less 1");
        SlateHalves x = Given.blocks(1, 1);
        int[][] calls = {{1, 1, -2}, {1, 0, -2}, {0, 1, -2}, {2, 0, -2}, {2, 1, 1}, {2, 2, -2}, {3, 2, 1}, {3, 3, -2},
            {60, 0, -2}, {60, 1, 0}, {60, 30, 1}, {60, 59, 0}, {60, 60, -2}, {61, 30, -2}, {61, 1, -2}};
        for (int[] c : calls) {
            checks.due("clean(0, " + c[0] + ", " + c[1] + ")", x.clean(0, c[0], c[1]), c[2]);
        }
        checks.due("clean(1, 2, 1)", x.clean(1, 2, 1), -1);
        checks.due("clean(-1, 2, 1)", x.clean(-1, 2, 1), -1);
        x.sell(0);
        checks.due("clean(0, 60, 30), gone", x.clean(0, 60, 30), 1);
    }

    private static void sellEdges() {
        checks.begin("8, 'STATE: it is gone'; its WORTH, by THIN and MOST");
        int[] thicks = {1, 2, 5, 6, 10, 11};
        int[] worths = {0, 10, 10, 5, 5, 0};
        SlateHalves x = new SlateHalves();
        int earned = 0;
        for (int i = 0; i < thicks.length; i++) {
            x.block(0, 0, thicks[i]);
            checks.due("sell(" + (i + 1) + "), none there", x.sell(i + 1), -1);
            checks.due("sell(" + i + "), " + thicks[i] + " thick", x.sell(i), worths[i]);
            earned += worths[i];
            checks.due("told(4)", x.told(4), earned);
            checks.due("of(" + i + ", 2)", x.of(i, 2), 0);
            checks.due("sell(" + i + "), gone", x.sell(i), -3);
            checks.due("told(4), as it was", x.told(4), earned);
        }
        checks.due("sell(-1)", x.sell(-1), -1);
        checks.due("sell(6)", x.sell(6), -1);
    }
}

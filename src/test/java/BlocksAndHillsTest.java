/** Promises 1 to 11, each by calls whose answers were worked out by hand. */
public final class BlocksAndHillsTest {
    private static final Checks checks = new Checks();

    public static void main(String[] args) {
        aNewObject();
        block();
        of();
        ofWorths();
        dry();
        row();
        strike();
        strikeLimits();
        clean();
        sell();
        feed();
        hill();
        prices();
        told();
        checks.end();
    }

    private static void aNewObject() {
        checks.begin("1 a new object");
        SlateHalves x = new SlateHalves();
        for (int what = 0; what <= 6; what++) {
            checks.due("count(" + what + ")", x.count(what), 0);
        }
        checks.due("of(0, 0)", x.of(0, 0), -1);
        checks.due("told(0)", x.told(0), 0);
        checks.due("told(4)", x.told(4), 0);
        checks.due("undo()", x.undo(), -3);
        checks.due("read(0, 0)", x.read(0, 0), SlateHalves.NO);
        checks.due("item(0, 0, 1)", x.item(0, 0, 1), -11);
        checks.due("hill()", x.hill(), -10);
        checks.due("NONE", SlateHalves.NONE, -1);
        checks.due("BAD", SlateHalves.BAD, -2);
        checks.due("STATE", SlateHalves.STATE, -3);
        checks.due("FULL", SlateHalves.FULL, -4);
        checks.due("NO", SlateHalves.NO, Long.MIN_VALUE);
        SlateHalves y = new SlateHalves();
        x.block(0, 0, 1);
        checks.due("count(0) of another one", y.count(0), 0);
    }

    private static void block() {
        checks.begin("2 block");
        SlateHalves x = new SlateHalves();
        checks.due("block(-1, 0, 1)", x.block(-1, 0, 1), -1);
        checks.due("block(7, 0, 1)", x.block(7, 0, 1), -1);
        checks.due("block(7, -1, 0)", x.block(7, -1, 0), -1);
        checks.due("block(0, -1, 1)", x.block(0, -1, 1), -2);
        checks.due("block(0, 10, 1)", x.block(0, 10, 1), -2);
        checks.due("block(0, 0, 0)", x.block(0, 0, 0), -2);
        checks.due("block(0, 0, 61)", x.block(0, 0, 61), -2);
        checks.due("count(0)", x.count(0), 0);
        checks.due("block(0, 0, 1)", x.block(0, 0, 1), 0);
        checks.due("block(6, 9, 60)", x.block(6, 9, 60), 1);
        for (int i = 2; i < 6; i++) {
            checks.due("block(1, 2, 3)", x.block(1, 2, 3), i);
        }
        checks.due("block(1, 2, 3), the 7th", x.block(1, 2, 3), -4);
        checks.due("block(1, 10, 3), the 7th", x.block(1, 10, 3), -2);
        checks.due("block(8, 2, 3), the 7th", x.block(8, 2, 3), -1);
        x.sell(0);
        checks.due("block(1, 2, 3), the 7th, one gone", x.block(1, 2, 3), -4);
        checks.due("count(0)", x.count(0), 6);
    }

    private static void of() {
        checks.begin("3 of");
        SlateHalves x = new SlateHalves();
        x.block(4, 7, 33);
        int[] due = {4, 7, 33, 0, 0, 10, 5, 1, 0};
        for (int what = 0; what < due.length; what++) {
            checks.due("of(0, " + what + ")", x.of(0, what), due[what]);
        }
        checks.due("of(-1, 0)", x.of(-1, 0), -1);
        checks.due("of(1, 0)", x.of(1, 0), -1);
        checks.due("of(0, -1)", x.of(0, -1), -1);
        checks.due("of(0, 14)", x.of(0, 14), -1);
        checks.begin("3 of, GRIP");
        int[] grips = {3, 6, 3, 3, 6, 3, 3};
        for (int kind = 0; kind < 7; kind++) {
            SlateHalves y = new SlateHalves();
            y.block(kind, 9, 5);
            checks.due("kind " + kind, y.of(0, 6), grips[kind]);
            y.dry(0, 9);
            checks.due("kind " + kind + ", dry 9", y.of(0, 6), grips[kind]);
            y.dry(0, 10);
            checks.due("kind " + kind + ", dry 10", y.of(0, 6), grips[kind] - 1);
            y.dry(0, 99);
            checks.due("kind " + kind + ", dry 99", y.of(0, 6), 0);
        }
        SlateHalves z = new SlateHalves();
        int[] vs = {3, 3, 3, 4, 4, 4};
        for (int v = 0; v < 6; v++) {
            z.block(1, v, 5);
            checks.due("FINE, v " + v, z.of(v, 6), vs[v]);
        }
        checks.begin("3 of, DRIES");
        for (int kind = 0; kind < 7; kind++) {
            SlateHalves y = new SlateHalves();
            y.block(kind, 0, 5);
            checks.due("kind " + kind + ", wind 1", y.of(0, 7), kind == 5 ? 0 : 1);
            Checks.hill(y, "wind 7");
            checks.due("kind " + kind + ", wind 7", y.of(0, 7), kind == 5 ? 3 : 7);
        }
    }

    /** WORTH, BEST, FEW, MANY, HALVES, BLOW. */
    private static void ofWorths() {
        checks.begin("3 of, WORTH");
        int[] worths = {0, 0, 10, 10, 10, 10, 5, 5, 5, 5, 5, 0, 0};
        for (int t = 1; t < worths.length; t++) {
            SlateHalves x = new SlateHalves();
            x.block(0, 0, t);
            checks.due("t " + t, x.of(0, 8), worths[t]);
        }
        checks.begin("3 of, what comes of 7");
        SlateHalves x = new SlateHalves();
        x.block(0, 0, 7);
        worths(x, 0, 30, 2, 3, 20, 1);
        x.dry(0, 30);
        checks.begin("3 of, what comes of 7, GRIP 0");
        // 7 is never halved; what is left of it is 4 at least, and 4 or 6 are halved.
        worths(x, 0, 20, 2, 2, 10, 1);
        checks.begin("3 of, what comes of a slate");
        x.block(0, 0, 3);
        worths(x, 1, 10, 0, 1, 10, 0);
        checks.begin("3 of, what comes of dust");
        x.block(0, 0, 1);
        worths(x, 2, 0, 0, 0, 0, 0);
        checks.begin("3 of, what comes of what is gone");
        x.sell(1);
        worths(x, 1, 0, 0, 0, 0, 0);
        checks.due("of(1, 5)", x.of(1, 5), 10);
        checks.due("of(1, 8)", x.of(1, 8), 0);
        checks.begin("3 of, nothing is worth a thing");
        SlateHalves y = new SlateHalves();
        Checks.hill(y, "cheap 10 b<9");
        y.block(0, 0, 20);
        worths(y, 0, 0, 0, 10, 0, 0);
        checks.begin("3 of, a half that is cut");
        SlateHalves z = new SlateHalves();
        Checks.hill(z, "cheap 3 b<9;thin 5");
        z.block(0, 0, 10);
        checks.due("of(0, 8)", z.of(0, 8), 3);
        worths(z, 0, 14, 1, 2, 14, 5);
        checks.begin("3 of, the knot in the half");
        SlateHalves k = new SlateHalves();
        k.block(3, 6, 14);
        worths(k, 0, 70, 6, 7, 20, 6);
        checks.begin("3 of, the vein at the edge");
        SlateHalves w = new SlateHalves();
        w.block(5, 1, 12);
        // Two off, and two off, and so on.
        worths(w, 0, 60, 5, 6, 40, 2);
        checks.begin("3 of, hard");
        SlateHalves h = new SlateHalves();
        Checks.hill(h, "thin 1;thick 1");
        h.block(4, 0, 4);
        // 4 is struck to 1 and 3; 3 and 2 are never CLEAN there, and leave one piece.
        worths(h, 0, 20, 3, 2, 20, 1);
    }

    private static void worths(SlateHalves x, int block, int best, int few, int many, int halves, int blow) {
        checks.due("of(" + block + ", 9)", x.of(block, 9), best);
        checks.due("of(" + block + ", 10)", x.of(block, 10), few);
        checks.due("of(" + block + ", 11)", x.of(block, 11), many);
        checks.due("of(" + block + ", 12)", x.of(block, 12), halves);
        checks.due("of(" + block + ", 13)", x.of(block, 13), blow);
    }

    private static void dry() {
        checks.begin("4 dry");
        SlateHalves x = new SlateHalves();
        x.block(0, 0, 5);
        checks.due("dry(0, 99)", x.dry(0, 99), 0);
        checks.due("dry(0, 0)", x.dry(0, 0), 99);
        checks.due("dry(0, 42)", x.dry(0, 42), 0);
        checks.due("dry(0, 100)", x.dry(0, 100), -2);
        checks.due("dry(0, -1)", x.dry(0, -1), -2);
        checks.due("dry(1, 100)", x.dry(1, 100), -1);
        checks.due("dry(-1, 1)", x.dry(-1, 1), -1);
        checks.due("of(0, 3)", x.of(0, 3), 42);
        x.sell(0);
        checks.due("dry(0, 7), gone", x.dry(0, 7), 42);
    }

    private static void row() {
        checks.begin("5 row");
        SlateHalves x = new SlateHalves();
        x.block(6, 0, 20);
        x.block(3, 0, 20);
        checks.due("row(0, 3, 9)", x.row(0, 3, 9), 0);
        checks.due("row(0, 3, 2)", x.row(0, 3, 2), 9);
        checks.due("row(0, 0, 0)", x.row(0, 0, 0), 0);
        checks.due("row(0, 4, 1)", x.row(0, 4, 1), -1);
        checks.due("row(0, -1, 1)", x.row(0, -1, 1), -1);
        checks.due("row(2, 0, 1)", x.row(2, 0, 1), -1);
        checks.due("row(2, 0, 10)", x.row(2, 0, 10), -1);
        checks.due("row(0, 0, 10)", x.row(0, 0, 10), -2);
        checks.due("row(0, 0, -1)", x.row(0, 0, -1), -2);
        checks.due("row(1, 0, 10)", x.row(1, 0, 10), -2);
        checks.due("row(1, 0, 1)", x.row(1, 0, 1), -3);
        checks.due("row(0, 3, 2)", x.row(0, 3, 2), 2);
        x.row(0, 0, 8);
        checks.due("clean(0, 20, 10)", x.clean(0, 20, 10), 0);
        checks.due("clean(0, 20, 14)", x.clean(0, 20, 14), 1);
        x.pass(1);
        checks.due("clean(0, 20, 10), day 1", x.clean(0, 20, 10), 1);
        x.pass(2);
        checks.due("clean(0, 20, 9), day 3", x.clean(0, 20, 9), 0);
        checks.due("clean(0, 20, 12), day 3", x.clean(0, 20, 12), 1);
        x.pass(1);
        checks.due("clean(0, 20, 14), day 4", x.clean(0, 20, 14), 1);
    }

    private static void strike() {
        checks.begin("6 strike");
        SlateHalves x = new SlateHalves();
        x.block(6, 3, 20);
        x.row(0, 0, 2);
        x.row(0, 2, 5);
        x.dry(0, 7);
        checks.due("strike(0, 0)", x.strike(0, 0), -2);
        checks.due("strike(0, 20)", x.strike(0, 20), -2);
        checks.due("strike(1, 1)", x.strike(1, 1), -1);
        checks.due("strike(0, 12)", x.strike(0, 12), 1);
        checks.due("of(0, 2)", x.of(0, 2), 12);
        checks.due("of(0, 4)", x.of(0, 4), 1);
        int[] due = {6, 3, 8, 7, 0};
        for (int what = 0; what < due.length; what++) {
            checks.due("of(1, " + what + ")", x.of(1, what), due[what]);
        }
        checks.due("row(1, 0, 0)", x.row(1, 0, 0), 2);
        checks.due("row(1, 2, 0)", x.row(1, 2, 0), 5);
        checks.due("row(0, 0, 1), not the same row", x.row(0, 0, 1), 2);
        checks.due("strike(0, 1)", x.strike(0, 1), 0);
        checks.due("of(0, 2)", x.of(0, 2), 11);
        checks.due("of(0, 4)", x.of(0, 4), 2);
        checks.due("strike(0, 9)", x.strike(0, 9), 0);
        checks.due("of(0, 2)", x.of(0, 2), 9);
        checks.due("of(0, 4)", x.of(0, 4), 3);
        checks.due("count(0)", x.count(0), 2);
        x.sell(0);
        checks.due("strike(0, 1), gone", x.strike(0, 1), -2);
        x.block(0, 0, 1);
        checks.due("strike(2, 1), too thin", x.strike(2, 1), -2);
    }

    private static void strikeLimits() {
        checks.begin("6 strike, six blocks");
        SlateHalves x = new SlateHalves();
        for (int i = 0; i < 6; i++) {
            x.block(0, 0, 20);
        }
        checks.due("strike(5, 10)", x.strike(5, 10), -4);
        checks.due("of(5, 4)", x.of(5, 4), 0);
        checks.due("of(5, 2)", x.of(5, 2), 20);
        checks.due("strike(5, 1)", x.strike(5, 1), 0);
        checks.due("of(5, 2)", x.of(5, 2), 19);
        checks.due("strike(5, 19)", x.strike(5, 19), -2);
        x.sell(0);
        checks.due("strike(5, 9), one gone", x.strike(5, 9), -4);
        checks.due("count(0)", x.count(0), 6);
        checks.begin("6 strike, a new block where an undone one stood");
        SlateHalves y = new SlateHalves();
        y.block(6, 1, 20);
        y.image();
        y.block(2, 9, 60);
        y.dry(1, 50);
        y.strike(1, 1);
        y.undo();
        y.row(0, 1, 4);
        checks.due("strike(0, 10)", y.strike(0, 10), 1);
        int[] due = {6, 1, 10, 0, 0};
        for (int what = 0; what < due.length; what++) {
            checks.due("of(1, " + what + ")", y.of(1, what), due[what]);
        }
        checks.due("row(1, 1, 0)", y.row(1, 1, 0), 4);
        checks.due("strike(1, 1)", y.strike(1, 1), 0);
        y.dry(1, 9);
        y.undo();
        y.block(6, 2, 3);
        int[] fresh = {6, 2, 3, 0, 0};
        for (int what = 0; what < fresh.length; what++) {
            checks.due("of(1, " + what + "), a new block", y.of(1, what), fresh[what]);
        }
        checks.due("row(1, 1, 0), a new block", y.row(1, 1, 0), 0);
    }

    private static void clean() {
        checks.begin("7 clean");
        cleanBlows(0, 9, 12, "00001110000");
        cleanBlows(1, 9, 12, "00111111100");
        cleanBlows(2, 0, 12, "10001110000");
        cleanBlows(2, 9, 12, "00001110010");
        cleanBlows(3, 5, 12, "00001010000");
        cleanBlows(4, 9, 12, "00111111100");
        cleanBlows(4, 0, 3, "00");
        cleanBlows(4, 0, 4, "111");
        cleanBlows(1, 0, 3, "11");
        cleanBlows(5, 1, 9, "01111100");
        cleanBlows(6, 3, 9, "00101100");
        SlateHalves x = new SlateHalves();
        x.block(0, 0, 1);
        checks.due("clean(1, 2, 1)", x.clean(1, 2, 1), -1);
        checks.due("clean(-1, 1, 1)", x.clean(-1, 1, 1), -1);
        checks.due("clean(0, 1, 1)", x.clean(0, 1, 1), -2);
        checks.due("clean(0, 61, 30)", x.clean(0, 61, 30), -2);
        checks.due("clean(0, 2, 0)", x.clean(0, 2, 0), -2);
        checks.due("clean(0, 2, 2)", x.clean(0, 2, 2), -2);
        checks.due("clean(0, 60, 60)", x.clean(0, 60, 60), -2);
        checks.due("clean(0, 2, 1)", x.clean(0, 2, 1), 1);
        checks.due("clean(0, 60, 30)", x.clean(0, 60, 30), 1);
        checks.due("clean(0, 60, 59)", x.clean(0, 60, 59), 0);
        checks.due("count(0)", x.count(0), 1);
        x.sell(0);
        checks.due("clean(0, 20, 10), gone", x.clean(0, 20, 10), 1);
        x.dry(0, 30);
        checks.due("clean(0, 20, 10), GRIP 0", x.clean(0, 20, 10), 1);
        checks.due("clean(0, 20, 11), GRIP 0", x.clean(0, 20, 11), 0);
        checks.due("clean(0, 21, 10), GRIP 0", x.clean(0, 21, 10), 0);
        x.dry(0, 29);
        checks.due("clean(0, 21, 10), GRIP 1", x.clean(0, 21, 10), 1);
        checks.due("clean(0, 21, 11), GRIP 1", x.clean(0, 21, 11), 1);
        checks.due("clean(0, 21, 12), GRIP 1", x.clean(0, 21, 12), 0);
    }

    /** A sign a blow from 1 on. */
    private static void cleanBlows(int kind, int v, int t, String due) {
        SlateHalves x = new SlateHalves();
        x.block(kind, v, 60);
        for (int at = 1; at < t; at++) {
            checks.due("kind " + kind + ", v " + v + ", clean(0, " + t + ", " + at + ")",
                    x.clean(0, t, at), due.charAt(at - 1) - '0');
        }
    }

    private static void sell() {
        checks.begin("8 sell");
        SlateHalves x = new SlateHalves();
        x.block(0, 0, 5);
        x.block(0, 0, 10);
        x.block(0, 0, 11);
        checks.due("sell(-1)", x.sell(-1), -1);
        checks.due("sell(3)", x.sell(3), -1);
        checks.due("sell(0)", x.sell(0), 10);
        checks.due("told(4)", x.told(4), 10);
        checks.due("of(0, 2)", x.of(0, 2), 0);
        checks.due("sell(0) again", x.sell(0), -3);
        checks.due("sell(1)", x.sell(1), 5);
        checks.due("sell(2)", x.sell(2), 0);
        checks.due("told(4)", x.told(4), 15);
        checks.due("of(2, 2)", x.of(2, 2), 0);
        checks.due("count(0)", x.count(0), 3);
        checks.due("of(1, 4)", x.of(1, 4), 0);
    }

    private static void feed() {
        checks.begin("9 feed");
        SlateHalves x = new SlateHalves();
        checks.due("feed(-1)", x.feed(-1), -2);
        checks.due("feed(128)", x.feed(128), -2);
        checks.due("feed(0)", x.feed(0), 1);
        checks.due("feed(127)", x.feed(127), 2);
        for (int i = 3; i <= 100; i++) {
            checks.due("feed(65)", x.feed(65), i);
        }
        checks.due("feed(65), the 101st", x.feed(65), -4);
        checks.due("feed(128), the 101st", x.feed(128), -2);
        checks.due("count(5)", x.count(5), 100);
        checks.due("hill()", x.hill(), -10);
        checks.due("feed(65)", x.feed(65), 1);
    }

    private static void hill() {
        checks.begin("10 hill");
        SlateHalves x = new SlateHalves();
        checks.due("the first", Checks.hill(x, "wind 5"), 0);
        checks.due("count(5)", x.count(5), 0);
        checks.due("a fault", Checks.hill(x, "wind 6;"), -17);
        checks.due("count(5)", x.count(5), 0);
        checks.due("count(1)", x.count(1), 1);
        checks.due("told(3)", x.told(3), 5);
        checks.due("the second", Checks.hill(x, "thin 3"), 1);
        checks.due("told(3), untold now", x.told(3), 1);
        checks.due("told(1)", x.told(1), 3);
        checks.due("a fault behind clauses that are right", Checks.hill(x, "thin 4;wind 9;dear 5 b=0;wing 3"), -38);
        checks.due("told(1)", x.told(1), 3);
        x.block(0, 0, 5);
        checks.due("of(0, 5)", x.of(0, 5), 10);
        for (int i = 2; i < 6; i++) {
            checks.due("one more", Checks.hill(x, "thin " + (i + 5)), i);
        }
        Checks.feed(x, "thin 1");
        checks.due("the 7th", x.hill(), -4);
        checks.due("count(5), it stays", x.count(5), 6);
        checks.due("told(1)", x.told(1), 10);
        x.feed('x');
        checks.due("the 7th, with a fault", x.hill(), -4);
        checks.due("count(1)", x.count(1), 6);
        checks.begin("10 hill, 100 bytes");
        String full = "dear 11 " + "b=0|".repeat(22) + "k>66";
        SlateHalves y = new SlateHalves();
        checks.due("its size", full.length(), 100);
        checks.due("full", Checks.hill(y, full), 0);
        checks.due("full, and ended too early", Checks.hill(y, full.replace("b=0|k>66", "b=0|k=6&")), -110);
        checks.due("full, and open", Checks.hill(y, full.replace("b=0|k>66", "b=0|(k>6")), -110);
    }

    private static void prices() {
        checks.begin("10 hill, PRICE");
        price("dear 7 b=0", 17, 10);
        price("dear 7 b=1", 10, 17);
        price("dear 7 b<1", 17, 10);
        price("dear 7 b>0", 10, 17);
        price("dear 7 k=2", 17, 10);
        price("dear 7 v=4", 17, 10);
        price("dear 7 t=1", 17, 10);
        price("dear 7 t=5", 10, 17);
        price("dear 7 d=2", 17, 10);
        price("dear 7 d=4", 10, 17);
        price("dear 7 y=3", 17, 17);
        price("dear 7 y=13", 10, 10);
        price("cheap 7 b=0", 3, 10);
        price("cheap 10 b=0", 0, 10);
        price("cheap 99 b=0", 0, 10);
        price("cheap 15 b=0;dear 9 b=0", 4, 10);
        price("cheap 15 b=0;dear 3 b=0", 0, 10);
        price("dear 99 b=0;dear 99 b=0", 208, 10);
        price("dear 7 !b=0", 10, 17);
        price("dear 7 !!b=0", 17, 10);
        price("dear 7 b=0&k=2", 17, 10);
        price("dear 7 b=0&k=3", 10, 10);
        price("dear 7 b=0|b=1", 17, 17);
        price("dear 7 b=1|b=0&k=3", 10, 17);
        price("dear 7 b=1&k=3|b=0", 17, 10);
        price("dear 7 (b=1|b=0)&k=3", 10, 10);
        price("dear 7 !b=0&b=1", 10, 17);
        price("dear 7 !(b=0&b=1)", 17, 17);
        price("dear 7 !b=0|b=0", 17, 17);
        price("dear 7 !(b=0|b=1)", 10, 10);
        price("dear 7 k=2&(v=5|!(t=2|d=3))", 17, 10);
        price("dear 05 b=00", 15, 10);
        price("dear 0 b=0", 10, 10);
        price("wind 3;dear 7 b=0;thin 4;cheap 1 b=1;thick 9", 17, 9);
        price("dear 1 b=0;dear 2 b=0;dear 4 b=0;cheap 8 b=1", 17, 2);
    }

    /** PRICE of a VEINED one (v 4, t 19, d 29) and of a TOLD one (v 6, t 50, d 40), on day 13. */
    private static void price(String told, int first, int second) {
        SlateHalves x = new SlateHalves();
        x.pass(13);
        x.block(2, 4, 19);
        x.block(6, 6, 50);
        x.dry(0, 29);
        x.dry(1, 40);
        checks.due(told, Checks.hill(x, told), 0);
        checks.due(told + ": of(0, 5)", x.of(0, 5), first);
        checks.due(told + ": of(1, 5)", x.of(1, 5), second);
    }

    private static void told() {
        checks.begin("11 told");
        told("dear 1 b=0", 2, 5, 1);
        told("thin 0", 1, 5, 1);
        told("thin 0;thick 0;wind 0", 1, 1, 0);
        told("thin 6", 6, 6, 1);
        told("thin 6;thick 3", 6, 6, 1);
        told("thick 1", 2, 2, 1);
        told("thick 60;thin 9;wind 99", 9, 60, 99);
        told("thin 3;thin 4;thick 20;thick 7;wind 8;wind 2", 4, 7, 2);
        told("thin 99;thick 99", 99, 99, 1);
        SlateHalves x = new SlateHalves();
        checks.due("told(-1)", x.told(-1), -1);
        checks.due("told(6)", x.told(6), -1);
        checks.due("told(5)", x.told(5), 0);
        x.block(0, 0, 7);
        x.block(0, 0, 3);
        checks.due("told(5)", x.told(5), 40);
        x.pass(4);
        checks.due("told(0)", x.told(0), 4);
        x.sell(1);
        checks.due("told(4)", x.told(4), 10);
        checks.due("told(5)", x.told(5), 30);
    }

    private static void told(String text, int thin, int most, int wind) {
        SlateHalves x = new SlateHalves();
        checks.due(text, Checks.hill(x, text), 0);
        checks.due(text + ": told(1)", x.told(1), thin);
        checks.due(text + ": told(2)", x.told(2), most);
        checks.due(text + ": told(3)", x.told(3), wind);
    }
}

/** Objects that are made ready for a test. */
final class Given {
    private Given() {
    }

    /** One BLOCK, number 0. */
    static SlateHalves block(int kind, int v, int thick) {
        SlateHalves x = new SlateHalves();
        x.block(kind, v, thick);
        return x;
    }

    static SlateHalves dryBlock(int kind, int v, int thick, int dry) {
        SlateHalves x = block(kind, v, thick);
        x.dry(0, dry);
        return x;
    }

    /** One BLOCK, number 0, by a HILL that holds. */
    static SlateHalves blockBy(String hill, int kind, int v, int thick) {
        SlateHalves x = block(kind, v, thick);
        if (Checks.hill(x, hill) != 0) {
            throw new IllegalStateException("no hill: " + hill);
        }
        return x;
    }

    /** So many plain BLOCKS, each that thick. */
    static SlateHalves blocks(int many, int thick) {
        SlateHalves x = new SlateHalves();
        for (int i = 0; i < many; i++) {
            x.block(0, 0, thick);
        }
        return x;
    }

    /** Some of all there is: BLOCKS of several KINDS, one gone, a HILL, rows told by hand, TAPES, an older IMAGE. */
    static SlateHalves some() {
        SlateHalves x = new SlateHalves();
        x.block(6, 5, 20);
        x.block(1, 7, 30);
        x.block(3, 9, 4);
        x.block(5, 2, 41);
        x.row(0, 1, 9);
        x.row(0, 2, 3);
        x.dry(1, 15);
        x.strike(1, 1);
        x.image();
        x.sell(2);
        Checks.hill(x, "dear 3 k=1;thin 3;wind 2");
        x.pass(2);
        x.strike(1, 2);
        x.see(5, 12, true);
        x.see(3, 11, false);
        x.week(2, 1);
        x.week(0, 0);
        x.week(1, 3);
        x.book(0, 20);
        x.book(1, 29);
        tapes(x);
        Checks.feed(x, "thick 7");
        x.act(0, 2, 3);
        return x;
    }

    private static void tapes(SlateHalves x) {
        x.tape(0, 0, 4);
        x.item(0, 0, 20);
        x.item(0, 1, 27);
        x.tape(1, 1, 3);
        x.item(1, 1, -5);
        x.tape(2, 0, 0);
        x.tape(3, 3, 4);
        x.item(3, 3, 1L << 40);
        x.tape(4, 4, 2);
        x.item(4, 1, 1);
    }

    /** No room left: six BLOCKS, six HILLS, six SEEN, ten rows of the WEEK, eight of the BOOK. */
    static SlateHalves full() {
        SlateHalves x = new SlateHalves();
        for (int kind = 0; kind < 6; kind++) {
            x.block(kind, kind, 20 + kind);
        }
        x.image();
        for (int i = 0; i < 6; i++) {
            Checks.hill(x, "wind " + (i + 2));
        }
        for (int i = 0; i < 10; i++) {
            x.week(i % 3, i % 6);
        }
        for (int i = 0; i < 8; i++) {
            x.book(i % 6, 20 + i % 6);
        }
        for (int i = 0; i < 6; i++) {
            x.see(6, 12 + i % 2, true);
        }
        Checks.feed(x, "thin");
        return x;
    }

    /** The last DAY there is, 9999, with a BLOCK that is not gone and one that is. */
    static SlateHalves late() {
        SlateHalves x = blocks(2, 20);
        x.sell(1);
        for (int i = 0; i < 166; i++) {
            x.pass(60);
        }
        x.pass(39);
        x.dry(0, 7);
        return x;
    }
}

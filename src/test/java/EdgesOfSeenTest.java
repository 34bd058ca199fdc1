/** The edges that the document names for promises 18 to 26, a test for each sentence of it. */
public final class EdgesOfSeenTest {
    private static final Checks checks = new Checks();
    private static final long NO = Long.MIN_VALUE;

    public static void main(String[] args) {
        seeEdges();
        seeRoom();
        seeNone();
        drynessEdges();
        drynessNumbers();
        drynessNone();
        drynessOfAll();
        canEdges();
        canNumbers();
        canNone();
        oddsEdges();
        oddsTerms();
        meanEdges();
        meanTerms();
        weekEdges();
        weekRoom();
        endsEdges();
        endsRows();
        endsGone();
        bookEdges();
        bookRoom();
        lookedEdges();
        checks.end();
    }

    private static void seeEdges() {
        checks.begin("18, 't (2 .. 60; x 1 .. t less 1)'");
        int[][] calls = {{1, 1, -2}, {0, 1, -2}, {0, 2, -2}, {1, 2, 1}, {2, 2, -2}, {59, 60, 1}, {60, 60, -2}, {1, 60, 1},
            {0, 60, -2}, {1, 61, -2}, {30, 61, -2}, {1, 0, -2}, {1, -1, -2}, {-2, 60, -2}, {1, 3, 1}, {2, 3, 1}, {3, 3, -2}};
        for (int[] c : calls) {
            for (boolean isClean : new boolean[] {true, false}) {
                SlateHalves x = new SlateHalves();
                String call = "see(" + c[0] + ", " + c[1] + ", " + isClean + ")";
                checks.due(call, x.see(c[0], c[1], isClean), c[2]);
                checks.due(call + ": count(2)", x.count(2), Math.max(0, c[2]));
            }
        }
    }

    private static void seeRoom() {
        checks.begin("18, '(6 at most)', 'FULL: 6'");
        SlateHalves x = Given.block(0, 0, 5);
        for (int i = 1; i <= 6; i++) {
            checks.due("see(5, 9, true)", x.see(5, 9, true), i);
        }
        checks.due("the 7th", x.see(5, 9, true), -4);
        checks.due("the 7th, that would be otherwise", x.see(5, 10, false), -4);
        checks.due("the 7th, BAD is named first", x.see(9, 9, true), -2);
        checks.due("count(2)", x.count(2), 6);
        checks.due("dryness(0, 0), by none but the six", x.dryness(0, 0), 30);
    }

    private static void seeNone() {
        checks.begin("18, '(x -1: none then, 0, whatever the others are)'");
        for (int t : new int[] {Integer.MIN_VALUE, -1, 0, 1, 2, 60, 61, Integer.MAX_VALUE}) {
            for (boolean isClean : new boolean[] {true, false}) {
                SlateHalves x = Given.block(0, 0, 5);
                checks.due("see(-1, " + t + ", " + isClean + "), none yet", x.see(-1, t, isClean), 0);
                x.see(1, 60, true);
                checks.due("dryness(0, 0)", x.dryness(0, 0), 0);
                checks.due("see(-1, " + t + ", " + isClean + ")", x.see(-1, t, isClean), 0);
                checks.due("count(2)", x.count(2), 0);
                checks.due("dryness(0, 0), of none", x.dryness(0, 0), 100);
                checks.due("see(1, 2, true), anew", x.see(1, 2, true), 1);
            }
        }
        SlateHalves full = Given.full();
        checks.due("see(-1, 0, true), of six", full.see(-1, 0, true), 0);
        checks.due("see(1, 2, true), anew", full.see(1, 2, true), 1);
    }

    private static void two(SlateHalves x, boolean isDryness, int many, int least) {
        String call = isDryness ? "dryness(0, " : "can(0, ";
        checks.due(call + "0)", isDryness ? x.dryness(0, 0) : x.can(0, 0), many);
        checks.due(call + "1)", isDryness ? x.dryness(0, 1) : x.can(0, 1), least);
    }

    private static void drynessEdges() {
        checks.begin("19, what 0, 1; NONE");
        SlateHalves x = new SlateHalves();
        for (int b = 0; b < 6; b++) {
            checks.due("dryness(" + b + ", 0), not yet there", x.dryness(b, 0), -1);
            x.block(0, 0, 5);
            checks.due("dryness(" + b + ", 0)", x.dryness(b, 0), 100);
            checks.due("dryness(" + b + ", 1)", x.dryness(b, 1), 0);
        }
        checks.due("dryness(-1, 0)", x.dryness(-1, 0), -1);
        checks.due("dryness(6, 0)", x.dryness(6, 0), -1);
        checks.due("dryness(0, -1)", x.dryness(0, -1), -1);
        checks.due("dryness(0, 2)", x.dryness(0, 2), -1);
        x.sell(0);
        checks.due("dryness(0, 0), gone", x.dryness(0, 0), 100);
    }

    private static void drynessNumbers() {
        checks.begin("19, 'how many numbers (0 .. 99) there are'");
        SlateHalves x = Given.dryBlock(1, 9, 5, 44);
        two(x, true, 100, 0);
        for (int grip = 1; grip <= 6; grip++) {
            int t = 20 + grip % 2;
            x.see(-1, 0, true);
            x.see((t - grip) / 2, t, true);
            two(x, true, 70 - 10 * grip, 0);
            x.see(-1, 0, true);
            x.see((t + grip) / 2, t, false);
            two(x, true, 30 + 10 * grip, 70 - 10 * grip);
        }
        checks.due("of(0, 3), as it was", x.of(0, 3), 44);
        checks.begin("19, the greatest of them is 99");
        SlateHalves y = Given.block(1, 9, 5);
        y.see(10, 21, false);
        two(y, true, 40, 60);
    }

    private static void drynessNone() {
        checks.begin("19, '(-5: none)'");
        SlateHalves x = Given.block(1, 9, 5);
        x.see(10, 20, false);
        two(x, true, 0, -5);
        x.see(-1, 0, true);
        x.see(6, 19, true);
        two(x, true, 0, -5);
        x.see(-1, 0, true);
        x.see(9, 20, true);
        x.see(9, 20, false);
        two(x, true, 0, -5);
        SlateHalves veined = Given.block(2, 9, 5);
        veined.see(10, 60, false);
        two(veined, true, 0, -5);
    }

    private static void drynessOfAll() {
        checks.begin("19, 'all of SEEN is so'");
        SlateHalves x = Given.block(0, 0, 5);
        // Of apart 3 it is CLEAN up to DRY 9, of 2 up to 19, of 1 up to 29.
        for (int i = 0; i < 5; i++) {
            x.see(10, 20, true);
        }
        x.see(9, 20, true);
        two(x, true, 20, 0);
        x.see(-1, 0, true);
        x.see(9, 21, false);
        x.see(9, 20, true);
        two(x, true, 10, 10);
        x.see(10, 21, true);
        two(x, true, 10, 10);
        x.see(11, 21, false);
        two(x, true, 0, -5);
    }

    private static void canEdges() {
        checks.begin("20, what 0, 1; NONE");
        SlateHalves x = new SlateHalves();
        for (int b = 0; b < 6; b++) {
            checks.due("can(" + b + ", 0), not yet there", x.can(b, 0), -1);
            x.block(0, 5, 5);
            checks.due("can(" + b + ", 0)", x.can(b, 0), 10);
            checks.due("can(" + b + ", 1)", x.can(b, 1), 0);
        }
        checks.due("can(-1, 0)", x.can(-1, 0), -1);
        checks.due("can(6, 0)", x.can(6, 0), -1);
        checks.due("can(0, -1)", x.can(0, -1), -1);
        checks.due("can(0, 2)", x.can(0, 2), -1);
        x.sell(0);
        checks.due("can(0, 0), gone", x.can(0, 0), 10);
    }

    private static void canNumbers() {
        checks.begin("20, 'how many numbers v (0 .. 9) there are'");
        int[] many = {10, 7, 4, 1};
        int[] least = {0, 3, 6, 9};
        for (int kind : new int[] {1, 4}) {
            SlateHalves x = Given.block(kind, 4, 5);
            for (int grip = 3; grip <= 6; grip++) {
                int t = 20 + grip % 2;
                x.see(-1, 0, true);
                x.see((t + grip) / 2, t, true);
                two(x, false, many[grip - 3], least[grip - 3]);
                x.see(-1, 0, true);
                x.see((t + grip) / 2, t, false);
                two(x, false, 10 - many[grip - 3], grip == 3 ? -5 : 0);
            }
            checks.due("of(0, 1), as it was", x.of(0, 1), 4);
        }
        checks.begin("20, a vein or a knot at its edges, v 0 and v 9");
        for (int v = 0; v <= 9; v++) {
            SlateHalves veined = Given.block(2, 4, 5);
            veined.see(v + 1, 60, true);
            two(veined, false, 1, v);
            SlateHalves knotty = Given.block(3, 4, 5);
            knotty.see(v + 1, 2 * v + 2, false);
            two(knotty, false, 1, v);
            knotty.see(-1, 0, true);
            knotty.see(v + 1, 2 * v + 2, true);
            two(knotty, false, 9, v == 0 ? 1 : 0);
        }
    }

    private static void canNone() {
        checks.begin("20, '(-5: none)'");
        SlateHalves x = Given.block(1, 4, 5);
        x.see(10, 20, false);
        two(x, false, 0, -5);
        SlateHalves veined = Given.block(2, 4, 5);
        veined.see(11, 60, true);
        two(veined, false, 0, -5);
        SlateHalves told = Given.block(6, 4, 5);
        told.see(14, 20, true);
        two(told, false, 0, -5);
        told.row(0, 1, 8);
        two(told, false, 0, -5);
        told.pass(1);
        two(told, false, 10, 0);
    }

    private static void odds(SlateHalves x, int block, long above, long below) {
        checks.due("odds(" + block + ", 0)", x.odds(block, 0), above);
        checks.due("odds(" + block + ", 1)", x.odds(block, 1), below);
    }

    private static void oddsEdges() {
        checks.begin("21, 'NO: its THICK is less than 2', part 0, 1, no such BLOCK");
        SlateHalves x = new SlateHalves();
        odds(x, 0, NO, NO);
        x.block(0, 0, 1);
        odds(x, 0, NO, NO);
        x.block(0, 0, 2);
        odds(x, 1, 1, 1);
        x.block(0, 0, 60);
        x.sell(2);
        odds(x, 2, NO, NO);
        odds(x, 3, NO, NO);
        odds(x, -1, NO, NO);
        checks.due("odds(1, -1)", x.odds(1, -1), NO);
        checks.due("odds(1, 2)", x.odds(1, 2), NO);
        x.strike(1, 1);
        odds(x, 1, NO, NO);
        odds(x, 3, NO, NO);
    }

    private static void oddsTerms() {
        checks.begin("21, 'a fraction in lowest terms'");
        odds(Given.block(0, 0, 3), 0, 1, 1);
        odds(Given.block(0, 0, 4), 0, 1, 1);
        odds(Given.block(0, 0, 5), 0, 1, 1);
        odds(Given.block(0, 0, 6), 0, 3, 5);
        odds(Given.block(0, 0, 7), 0, 2, 3);
        odds(Given.block(0, 0, 60), 0, 3, 59);
        odds(Given.dryBlock(0, 0, 60, 30), 0, 1, 59);
        odds(Given.dryBlock(0, 0, 59, 30), 0, 0, 1);
        odds(Given.block(4, 0, 3), 0, 0, 1);
        odds(Given.block(4, 0, 2), 0, 0, 1);
        odds(Given.block(3, 0, 2), 0, 0, 1);
        odds(Given.block(2, 3, 10), 0, 1, 3);
        odds(Given.block(2, 0, 10), 0, 4, 9);
    }

    private static void mean(SlateHalves x, long above, long below) {
        checks.due("mean(0)", x.mean(0), above);
        checks.due("mean(1)", x.mean(1), below);
    }

    private static void meanEdges() {
        checks.begin("22, '(NO: there are none)', part 0, 1");
        SlateHalves x = new SlateHalves();
        mean(x, NO, NO);
        x.block(0, 0, 1);
        mean(x, 1, 1);
        checks.due("mean(-1)", x.mean(-1), NO);
        checks.due("mean(2)", x.mean(2), NO);
        x.sell(0);
        mean(x, NO, NO);
        x.block(0, 0, 60);
        mean(x, 60, 1);
    }

    private static void meanTerms() {
        checks.begin("22, 'all that are not gone .. in lowest terms'");
        SlateHalves x = Given.blocks(6, 60);
        mean(x, 60, 1);
        x.strike(5, 59);
        mean(x, 359, 6);
        x.strike(4, 58);
        mean(x, 119, 2);
        x.strike(3, 59);
        mean(x, 178, 3);
        x.sell(5);
        mean(x, 297, 5);
    }

    private static void weekEdges() {
        checks.begin("23, 'NONE: what (0 .. 2), block (by 1, 2)'");
        SlateHalves x = new SlateHalves();
        checks.due("week(1, 0), no BLOCKS", x.week(1, 0), -1);
        checks.due("week(2, 0), no BLOCKS", x.week(2, 0), -1);
        x.block(0, 0, 5);
        checks.due("week(-2, 0)", x.week(-2, 0), -1);
        checks.due("week(3, 0)", x.week(3, 0), -1);
        checks.due("count(3)", x.count(3), 0);
        int[] blocks = {Integer.MIN_VALUE, -1, 1, 6, Integer.MAX_VALUE};
        for (int i = 0; i < blocks.length; i++) {
            checks.due("week(0, " + blocks[i] + "), whatever the BLOCK", x.week(0, blocks[i]), i + 1);
            checks.due("week(1, " + blocks[i] + ")", x.week(1, blocks[i]), -1);
            checks.due("week(2, " + blocks[i] + ")", x.week(2, blocks[i]), -1);
        }
        checks.due("week(1, 0)", x.week(1, 0), 6);
        checks.due("week(2, 0)", x.week(2, 0), 7);
        x.sell(0);
        checks.due("week(1, 0), gone", x.week(1, 0), 8);
        checks.due("ends(0)", x.ends(0), 0);
    }

    private static void weekRoom() {
        checks.begin("23, '10 rows at most'; '(what -1: it is empty then, 0, whatever the other is)'");
        SlateHalves x = Given.blocks(1, 5);
        for (int i = 1; i <= 10; i++) {
            checks.due("week(0, 0)", x.week(0, 0), i);
        }
        for (int what = 0; what <= 2; what++) {
            checks.due("week(" + what + ", 0), the 11th", x.week(what, 0), -4);
        }
        checks.due("week(1, 1), the 11th, NONE is named first", x.week(1, 1), -1);
        checks.due("ends(1), no 11th row", x.ends(1), 1);
        for (int block : new int[] {Integer.MIN_VALUE, -1, 0, 1, Integer.MAX_VALUE}) {
            checks.due("week(-1, " + block + ")", x.week(-1, block), 0);
            checks.due("count(3)", x.count(3), 0);
            checks.due("week(1, 0), anew", x.week(1, 0), 1);
        }
        checks.due("the tenth row counts", tenth().ends(0), 20);
    }

    private static SlateHalves tenth() {
        SlateHalves x = Given.blocks(2, 5);
        for (int i = 0; i < 8; i++) {
            x.week(0, 0);
        }
        x.week(1, 0);
        x.week(1, 1);
        return x;
    }

    private static void endsEdges() {
        checks.begin("24, what 0, 1");
        SlateHalves x = new SlateHalves();
        checks.due("ends(-1)", x.ends(-1), -1);
        checks.due("ends(0), no WEEK", x.ends(0), 0);
        checks.due("ends(1), no BLOCKS", x.ends(1), 0);
        checks.due("ends(2)", x.ends(2), -1);
        x.block(0, 0, 5);
        checks.due("ends(0), no WEEK", x.ends(0), 0);
        checks.due("ends(1), no WEEK", x.ends(1), 1);
    }

    private static void ends(SlateHalves x, int earned, int present) {
        checks.due("ends(0)", x.ends(0), earned);
        checks.due("ends(1)", x.ends(1), present);
    }

    private static void endsRows() {
        checks.begin("24, '0 a DAY, 1 a BLOCK is SOLD, 2 a BLOCK is SOLD for its BEST as things are then'");
        SlateHalves x = Given.blockBy("wind 10;dear 3 y=1;dear 6 y=3", 0, 0, 7);
        x.block(0, 0, 7);
        x.week(1, 0);
        ends(x, 5, 1);
        x.week(-1, 0);
        x.week(2, 0);
        ends(x, 30, 1);
        x.week(-1, 0);
        x.week(0, 0);
        x.week(1, 0);
        ends(x, 6, 1);
        x.week(2, 1);
        ends(x, 6 + 39, 0);
        x.week(-1, 0);
        for (int i = 0; i < 3; i++) {
            x.week(0, 0);
        }
        x.week(2, 0);
        // Three DAYS on the GRIP is 0: 7, 6, and that 3 and 3.
        ends(x, 32, 1);
        x.week(0, 0);
        x.week(2, 1);
        ends(x, 32 + 20, 0);
        checks.due("told(0), nothing of it is so", x.told(0), 0);
        checks.due("told(4), nothing of it is so", x.told(4), 0);
        checks.due("of(0, 2), nothing of it is so", x.of(0, 2), 7);
        x.pass(1);
        ends(x, 20 + 20, 0);
    }

    private static void endsGone() {
        checks.begin("24, 'who is gone brings 0'");
        SlateHalves x = Given.blockBy("thin 1;thick 60;dear 20 t=0", 0, 0, 9);
        x.block(0, 0, 9);
        for (int i = 0; i < 3; i++) {
            x.week(1, 0);
            x.week(2, 0);
        }
        ends(x, 30, 1);
        x.sell(0);
        ends(x, 0, 1);
        x.sell(1);
        ends(x, 0, 0);
        SlateHalves dry = Given.blockBy("wind 10;thick 30", 0, 0, 7);
        dry.sell(0);
        dry.week(0, 0);
        dry.week(2, 0);
        ends(dry, 0, 0);
    }

    private static void bookEdges() {
        checks.begin("25, 'THICK (0 .. 60 ..)', no such BLOCK");
        SlateHalves x = new SlateHalves();
        checks.due("book(0, 5), no BLOCKS", x.book(0, 5), -1);
        x.block(0, 0, 5);
        checks.due("book(0, -1)", x.book(0, -1), -2);
        checks.due("book(0, 0)", x.book(0, 0), 1);
        checks.due("book(0, 60)", x.book(0, 60), 2);
        checks.due("book(0, 61)", x.book(0, 61), -2);
        checks.due("book(1, 5)", x.book(1, 5), -1);
        checks.due("book(1, 61), NONE is named first", x.book(1, 61), -1);
        checks.due("book(-2, 5)", x.book(-2, 5), -1);
        checks.due("count(4)", x.count(4), 2);
    }

    private static void bookRoom() {
        checks.begin("25, '8 at most'; '(block -1: it is empty then, 0, whatever the other is)'");
        SlateHalves x = Given.blocks(1, 5);
        for (int i = 1; i <= 8; i++) {
            checks.due("book(0, 5)", x.book(0, 5), i);
        }
        checks.due("the 9th", x.book(0, 5), -4);
        checks.due("the 9th, otherwise", x.book(0, 6), -4);
        checks.due("the 9th, BAD is named first", x.book(0, 61), -2);
        checks.due("the 9th, NONE is named first", x.book(1, 5), -1);
        checks.due("looked()", x.looked(), -5);
        for (int thick : new int[] {Integer.MIN_VALUE, -1, 0, 60, 61, Integer.MAX_VALUE}) {
            checks.due("book(-1, " + thick + ")", x.book(-1, thick), 0);
            checks.due("count(4)", x.count(4), 0);
            checks.due("book(0, 6), anew", x.book(0, 6), 1);
        }
        checks.due("book(-1, 5) of none", new SlateHalves().book(-1, 5), 0);
    }

    private static void lookedEdges() {
        checks.begin("26, 'the number of the first of these rows', '(-5: none)'");
        SlateHalves x = Given.blocks(2, 20);
        checks.due("no rows", x.looked(), -5);
        for (int i = 0; i < 7; i++) {
            x.book(0, 20);
        }
        checks.due("all so", x.looked(), -5);
        x.book(1, 19);
        checks.due("only the last", x.looked(), 7);
        x.strike(1, 1);
        checks.due("all so now", x.looked(), -5);
        x.strike(0, 1);
        checks.due("the first", x.looked(), 0);
        x.book(-1, 0);
        checks.due("no rows any more", x.looked(), -5);
        x.book(0, 0);
        checks.due("told as gone", x.looked(), 0);
        x.sell(0);
        checks.due("gone", x.looked(), -5);
        x.book(0, 1);
        x.book(1, 1);
        checks.due("the first of two", x.looked(), 1);
    }
}

/** The edges that the document names for promises 12 to 17, a test for each sentence of it. */
public final class EdgesOfDaysTest {
    private static final Checks checks = new Checks();

    public static void main(String[] args) {
        passEdges();
        passLast();
        dayGoes();
        dayGone();
        dayMost();
        onEdges();
        onWhat();
        onGoesOn();
        onGone();
        beyondLast();
        lastsEdges();
        lastsDays();
        lastsGap();
        orderEdges();
        orderFewer();
        orderFirst();
        orderDays();
        losesEdges();
        losesBelow();
        worstOfSeveral();
        worstNone();
        checks.end();
    }

    private static void passEdges() {
        checks.begin("12, 'n DAYS (0 .. 60)'");
        SlateHalves x = new SlateHalves();
        checks.due("pass(-1)", x.pass(-1), -2);
        checks.due("pass(0)", x.pass(0), 0);
        checks.due("pass(1)", x.pass(1), 1);
        checks.due("pass(60)", x.pass(60), 61);
        checks.due("pass(61)", x.pass(61), -2);
        checks.due("told(0)", x.told(0), 61);
    }

    private static void passLast() {
        checks.begin("12, 'STATE: it would be above 9999'");
        SlateHalves x = Given.blocks(1, 5);
        for (int i = 0; i < 166; i++) {
            x.pass(60);
        }
        x.dry(0, 0);
        checks.due("pass(40), to 10000", x.pass(40), -3);
        checks.due("pass(60)", x.pass(60), -3);
        checks.due("told(0)", x.told(0), 9960);
        checks.due("of(0, 3)", x.of(0, 3), 0);
        checks.due("pass(61), BAD is named first", x.pass(61), -2);
        checks.due("pass(39), to 9999", x.pass(39), 9999);
        checks.due("of(0, 3)", x.of(0, 3), 39);
        checks.due("pass(1)", x.pass(1), -3);
        checks.due("pass(-1)", x.pass(-1), -2);
        checks.due("pass(0)", x.pass(0), 9999);
        checks.due("of(0, 3)", x.of(0, 3), 39);
        SlateHalves y = new SlateHalves();
        for (int i = 0; i < 166; i++) {
            y.pass(60);
        }
        checks.due("pass(38), to 9998", y.pass(38), 9998);
        checks.due("pass(2)", y.pass(2), -3);
        checks.due("pass(1)", y.pass(1), 9999);
    }

    private static void dayGoes() {
        checks.begin("12, 'DRY .. is what it DRIES more', DAY by DAY or at once");
        for (int wind : new int[] {0, 1, 2, 3, 99}) {
            SlateHalves atOnce = Given.blockBy("wind " + wind, 5, 0, 5);
            atOnce.block(1, 9, 5);
            SlateHalves oneByOne = Given.blockBy("wind " + wind, 5, 0, 5);
            oneByOne.block(1, 9, 5);
            checks.due("wind " + wind + ": pass(3)", atOnce.pass(3), 3);
            for (int i = 1; i <= 3; i++) {
                checks.due("wind " + wind + ": pass(1)", oneByOne.pass(1), i);
            }
            int wet = Math.min(99, 3 * (wind / 2));
            int fine = Math.min(99, 3 * wind);
            checks.due("wind " + wind + ", WET", atOnce.of(0, 3), wet);
            checks.due("wind " + wind + ", WET, one by one", oneByOne.of(0, 3), wet);
            checks.due("wind " + wind + ", FINE", atOnce.of(1, 3), fine);
            checks.due("wind " + wind + ", FINE, one by one", oneByOne.of(1, 3), fine);
        }
    }

    private static void dayGone() {
        checks.begin("12, 'of each that is not gone'");
        SlateHalves x = Given.blocks(3, 5);
        x.dry(1, 7);
        x.sell(1);
        x.pass(4);
        checks.due("of(0, 3)", x.of(0, 3), 4);
        checks.due("of(1, 3), gone", x.of(1, 3), 7);
        checks.due("of(2, 3)", x.of(2, 3), 4);
    }

    private static void dayMost() {
        checks.begin("12, '(99 at most)'");
        SlateHalves x = Given.blocks(4, 5);
        x.dry(0, 97);
        x.dry(1, 98);
        x.dry(2, 99);
        x.pass(1);
        int[] one = {98, 99, 99, 1};
        int[] two = {99, 99, 99, 2};
        for (int b = 0; b < 4; b++) {
            checks.due("of(" + b + ", 3)", x.of(b, 3), one[b]);
        }
        x.pass(1);
        for (int b = 0; b < 4; b++) {
            checks.due("of(" + b + ", 3), a DAY on", x.of(b, 3), two[b]);
        }
        SlateHalves y = Given.blockBy("wind 99", 0, 0, 5);
        y.pass(1);
        checks.due("wind 99, one DAY", y.of(0, 3), 99);
        y.pass(60);
        checks.due("wind 99, 61 DAYS", y.of(0, 3), 99);
    }

    private static void onEdges() {
        checks.begin("13, 'ON n DAYS (0 .. 60)'");
        SlateHalves x = Given.blocks(1, 7);
        checks.due("on(-1, 10)", x.on(-1, 10), -2);
        checks.due("on(0, 10)", x.on(0, 10), 0);
        checks.due("on(1, 10)", x.on(1, 10), 1);
        checks.due("on(60, 10)", x.on(60, 10), 60);
        checks.due("on(61, 10)", x.on(61, 10), -2);
        checks.due("on(-1, 0)", x.on(-1, 0), -2);
        checks.due("on(61, 20)", x.on(61, 20), -2);
        checks.due("on(61, 21), NONE is named first", x.on(61, 21), -1);
        checks.due("on(-1, -1), NONE is named first", x.on(-1, -1), -1);
        checks.due("told(0)", x.told(0), 0);
        checks.due("of(0, 3)", x.of(0, 3), 0);
    }

    private static void onWhat() {
        checks.begin("13, what '0 .., 10 and b .., 20 and b'");
        SlateHalves x = new SlateHalves();
        checks.due("on(0, 0), no BLOCKS", x.on(0, 0), 0);
        checks.due("on(60, 0), no BLOCKS", x.on(60, 0), 0);
        for (int b = 0; b < 6; b++) {
            checks.due("on(0, 1" + b + "), not yet there", x.on(0, 10 + b), -1);
            checks.due("on(0, 2" + b + "), not yet there", x.on(0, 20 + b), -1);
            x.block(0, 0, 2 * b + 2);
            x.dry(b, b + 3);
            checks.due("on(0, 1" + b + ")", x.on(0, 10 + b), b + 3);
            checks.due("on(0, 2" + b + ")", x.on(0, 20 + b), 10 * b + 10);
        }
        checks.due("on(0, 0)", x.on(0, 0), 210);
        for (int what : new int[] {-1, 1, 2, 9, 16, 17, 18, 19, 26, 27, 30}) {
            checks.due("on(0, " + what + ")", x.on(0, what), -1);
        }
    }

    private static void onGoesOn() {
        checks.begin("13, ON as if the DAYS had gone");
        for (int n : new int[] {0, 1, 9, 10, 29, 30, 60}) {
            SlateHalves asked = Given.blockBy("wind 3;dear 3 y=9;cheap 4 d>2;dear 2 y=0", 6, 1, 17);
            SlateHalves gone = Given.blockBy("wind 3;dear 3 y=9;cheap 4 d>2;dear 2 y=0", 6, 1, 17);
            asked.row(0, 1, 5);
            gone.row(0, 1, 5);
            gone.pass(n);
            checks.due("on(" + n + ", 0)", asked.on(n, 0), gone.told(5));
            checks.due("on(" + n + ", 10)", asked.on(n, 10), gone.of(0, 3));
            checks.due("on(" + n + ", 20)", asked.on(n, 20), gone.of(0, 9));
        }
    }

    private static void onGone() {
        checks.begin("13, ON of what is gone");
        SlateHalves x = Given.blocks(2, 5);
        x.dry(0, 8);
        x.sell(0);
        checks.due("on(5, 10)", x.on(5, 10), 8);
        checks.due("on(5, 20)", x.on(5, 20), 0);
        checks.due("on(5, 0)", x.on(5, 0), 20);
    }

    private static void beyondLast() {
        checks.begin("13 to 16, 24, 'DAYS also beyond 9999'");
        SlateHalves x = Given.late();
        Checks.hill(x, "dear 7 y=0;dear 9 y=9;thick 20");
        checks.due("on(0, 20), DAY 9999", x.on(0, 20), 190);
        checks.due("on(1, 20), DAY 10000", x.on(1, 20), 170);
        checks.due("on(2, 20), DAY 10001", x.on(2, 20), 100);
        checks.due("on(60, 10), DAY 10059", x.on(60, 10), 67);
        checks.due("on(11, 0), DAY 10010", x.on(11, 0), 170);
        // DAYS 9999 and 10009, 10000 and 10010 are alike in y; then the GRIP is too little.
        checks.due("lasts(190)", x.lasts(190), 10);
        checks.due("lasts(170)", x.lasts(170), 11);
        checks.due("loses(0)", x.loses(0), 20);
        checks.due("worst()", x.worst(), 0);
        checks.due("order(-1)", x.order(-1), 190);
        x.week(0, 0);
        x.week(2, 0);
        checks.due("ends(0)", x.ends(0), 170);
        checks.due("told(0)", x.told(0), 9999);
        checks.due("pass(1)", x.pass(1), -3);
        SlateHalves y = Given.late();
        y.block(6, 9, 4);
        y.row(2, 0, 8);
        checks.due("on(0, 22), DAY 9999, by ROW 3", y.on(0, 22), 20);
        checks.due("on(1, 22), DAY 10000, by ROW 0", y.on(1, 22), 10);
        checks.due("on(2, 22), DAY 10001, by ROW 1", y.on(2, 22), 20);
    }

    private static void lastsEdges() {
        checks.begin("14, 'q (0 .. 99999)'");
        SlateHalves x = Given.blocks(1, 5);
        checks.due("lasts(-1)", x.lasts(-1), -2);
        checks.due("lasts(0)", x.lasts(0), 20);
        checks.due("lasts(99999)", x.lasts(99999), -5);
        checks.due("lasts(100000)", x.lasts(100000), -2);
        checks.due("no BLOCKS: lasts(0)", new SlateHalves().lasts(0), 20);
        checks.due("no BLOCKS: lasts(1)", new SlateHalves().lasts(1), -5);
        checks.due("no BLOCKS: lasts(-1)", new SlateHalves().lasts(-1), -2);
    }

    private static void lastsDays() {
        checks.begin("14, 'the most DAYS (0 .. 20)', 'is q or more'");
        SlateHalves x = Given.blockBy("thick 5;dear 3 d=0", 0, 0, 5);
        // 13 a slate on days 0 .. 9, two of them; 10 a slate later.
        checks.due("lasts(26)", x.lasts(26), 9);
        checks.due("lasts(27)", x.lasts(27), -5);
        checks.due("lasts(21)", x.lasts(21), 9);
        checks.due("lasts(20)", x.lasts(20), 20);
        x.dry(0, 9);
        checks.due("lasts(26), only today", x.lasts(26), 0);
        x.dry(0, 10);
        checks.due("lasts(26), no more", x.lasts(26), -5);
        checks.due("lasts(20)", x.lasts(20), 20);
        for (int day : new int[] {19, 20, 21}) {
            SlateHalves y = Given.blockBy("wind 10;dear 5 d>8", 0, 0, 3);
            Checks.hill(y, "wind 1;dear 5 d=2");
            y.dry(0, 29 - day);
            checks.due("15 up to DAY " + day, y.lasts(15), Math.min(20, day));
        }
        SlateHalves late = Given.blockBy("dear 5 d=4", 0, 0, 3);
        late.dry(0, 20);
        checks.due("15 just on DAY 20", late.lasts(15), 20);
        late.dry(0, 19);
        checks.due("15 only from DAY 21 on", late.lasts(15), -5);
    }

    private static void lastsGap() {
        checks.begin("14, 'the most DAYS', though fewer are too little");
        SlateHalves x = Given.blockBy("wind 0;dear 5 y=3", 0, 0, 3);
        checks.due("lasts(15)", x.lasts(15), 13);
        checks.due("lasts(10)", x.lasts(10), 20);
        x.pass(3);
        checks.due("lasts(15), DAY 3", x.lasts(15), 20);
        x.pass(1);
        checks.due("lasts(15), DAY 4", x.lasts(15), 19);
    }

    private static void orderEdges() {
        checks.begin("15, 'k (-1 .. 5)'");
        SlateHalves x = Given.blocks(6, 3);
        checks.due("order(-2)", x.order(-2), -1);
        checks.due("order(-1)", x.order(-1), 60);
        for (int k = 0; k <= 5; k++) {
            checks.due("order(" + k + ")", x.order(k), k);
        }
        checks.due("order(6)", x.order(6), -1);
        checks.due("no BLOCKS: order(-2)", new SlateHalves().order(-2), -1);
        checks.due("no BLOCKS: order(6)", new SlateHalves().order(6), -1);
    }

    private static void orderFewer() {
        checks.begin("15, '(-5: there are fewer)'; 'the BLOCKS that are not gone'");
        SlateHalves x = new SlateHalves();
        for (int k = 0; k <= 5; k++) {
            checks.due("no BLOCKS: order(" + k + ")", x.order(k), -5);
        }
        checks.due("no BLOCKS: order(-1)", x.order(-1), 0);
        for (int many = 1; many <= 6; many++) {
            x.block(0, 0, 3);
            checks.due(many + ": the last", x.order(many - 1), many - 1);
            if (many < 6) {
                checks.due(many + ": one more", x.order(many), -5);
            }
        }
        x.sell(0);
        x.sell(3);
        int[] due = {1, 2, 4, 5, -5, -5};
        for (int k = 0; k <= 5; k++) {
            checks.due("two gone: order(" + k + ")", x.order(k), due[k]);
        }
        checks.due("two gone: order(-1)", x.order(-1), 40);
        for (int b : new int[] {1, 2, 4, 5}) {
            x.sell(b);
        }
        checks.due("all gone: order(-1)", x.order(-1), 0);
        checks.due("all gone: order(0)", x.order(0), -5);
    }

    private static void orderFirst() {
        checks.begin("15, 'of several the first as a row of numbers'");
        SlateHalves x = Given.blocks(4, 3);
        Checks.hill(x, "dear 5 b=2&y=0;dear 5 b=3&y=0");
        order(x, 45, 2, 0, 1, 3);
        Checks.hill(x, "dear 5 b=0&y=3;dear 5 b=1&y=3");
        order(x, 45, 0, 2, 3, 1);
        Checks.hill(x, "dear 5 b=3&y=0;dear 5 b=0&y=1");
        order(x, 50, 3, 0, 1, 2);
        Checks.hill(x, "cheap 5 b=0&y=0");
        order(x, 40, 1, 0, 2, 3);
        Checks.hill(x, "cheap 99 b<9");
        order(x, 0, 0, 1, 2, 3);
    }

    private static void order(SlateHalves x, int much, int... due) {
        checks.due("order(-1)", x.order(-1), much);
        for (int k = 0; k < due.length; k++) {
            checks.due("order(" + k + ")", x.order(k), due[k]);
        }
    }

    private static void orderDays() {
        checks.begin("15, 'the k-th (from 0 on) being worth what its BEST is behind k DAYS'");
        SlateHalves x = Given.blocks(6, 3);
        x.pass(5);
        // BLOCK 5 is dear today, 4 a day later, and so on: DAYS 5 .. 10.
        Checks.hill(x, "dear 9 b=5&y=5;dear 9 b=4&y=6;dear 9 b=3&y=7;dear 9 b=2&y=8;dear 9 b=1&y=9;dear 9 b=0&y=0");
        order(x, 114, 5, 4, 3, 2, 1, 0);
        // A DAY that no order reaches: 6 DAYS on.
        Checks.hill(x, "dear 9 b=0&y=1");
        order(x, 60, 0, 1, 2, 3, 4, 5);
        x.sell(3);
        // With five of them the sixth DAY is out of reach, too.
        Checks.hill(x, "dear 9 b=0&y=0");
        order(x, 50, 0, 1, 2, 4, 5, -5);
        Checks.hill(x, "dear 9 b=0&y=9");
        order(x, 59, 1, 2, 4, 5, 0, -5);
    }

    private static void losesEdges() {
        checks.begin("16, '-1001: NONE'");
        SlateHalves x = new SlateHalves();
        for (int b = 0; b < 6; b++) {
            checks.due("loses(" + b + "), not yet there", x.loses(b), -1001);
            x.block(0, 0, 3);
            checks.due("loses(" + b + ")", x.loses(b), 0);
        }
        checks.due("loses(6)", x.loses(6), -1001);
        checks.due("loses(-1)", x.loses(-1), -1001);
        x.sell(4);
        checks.due("loses(4), gone", x.loses(4), 0);
    }

    private static void losesBelow() {
        checks.begin("16, 'its BEST less that behind 1 DAY (may be below 0)'");
        SlateHalves x = Given.blockBy("dear 1 y=1", 0, 0, 3);
        checks.due("loses(0), 1 below 0", x.loses(0), -1);
        x.pass(1);
        checks.due("loses(0), 1", x.loses(0), 1);
        x.pass(1);
        checks.due("loses(0), 0", x.loses(0), 0);
        SlateHalves y = Given.blockBy(many(8, "dear 99 y=1"), 0, 0, 60);
        checks.due("loses(0), far below 0", y.loses(0), 30 * (10 - 802));
        checks.due("worst(), though it is so little", y.worst(), 0);
    }

    private static String many(int times, String clause) {
        return (clause + ";").repeat(times - 1) + clause;
    }

    private static void worstOfSeveral() {
        checks.begin("17, 'LOSES most (of several the first)'");
        SlateHalves x = Given.blocks(4, 3);
        checks.due("all alike", x.worst(), 0);
        Checks.hill(x, "dear 2 b=1&y=0;dear 2 b=3&y=0");
        checks.due("two alike", x.worst(), 1);
        Checks.hill(x, "dear 2 b=1&y=0;dear 3 b=3&y=0");
        checks.due("the last one more", x.worst(), 3);
        Checks.hill(x, "dear 2 b<2&y=1;dear 3 b=3&y=1");
        checks.due("0 is more than below 0", x.worst(), 2);
        Checks.hill(x, "dear 2 b<9&y=1;dear 3 b=0&y=1");
        checks.due("all below 0, of several the first", x.worst(), 1);
    }

    private static void worstNone() {
        checks.begin("17, 'that is not gone', '(-5: there are none)'");
        SlateHalves x = new SlateHalves();
        checks.due("no BLOCKS", x.worst(), -5);
        x.block(0, 0, 3);
        x.block(0, 0, 3);
        Checks.hill(x, "dear 2 b<9&y=1");
        x.sell(0);
        // What is gone LOSES 0, the other one less than that.
        checks.due("one gone", x.worst(), 1);
        x.sell(1);
        checks.due("all gone", x.worst(), -5);
    }
}

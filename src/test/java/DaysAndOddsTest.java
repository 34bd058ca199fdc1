/** Promises 12 to 26, each by calls whose answers were worked out by hand. */
public final class DaysAndOddsTest {
    private static final Checks checks = new Checks();

    public static void main(String[] args) {
        pass();
        on();
        lasts();
        order();
        losesAndWorst();
        see();
        dryness();
        can();
        odds();
        mean();
        week();
        ends();
        book();
        looked();
        checks.end();
    }

    private static void pass() {
        checks.begin("12 pass");
        SlateHalves x = new SlateHalves();
        x.block(0, 0, 5);
        x.block(5, 0, 5);
        x.block(0, 0, 5);
        x.sell(2);
        checks.due("pass(0)", x.pass(0), 0);
        checks.due("pass(-1)", x.pass(-1), -2);
        checks.due("pass(61)", x.pass(61), -2);
        checks.due("pass(60)", x.pass(60), 60);
        checks.due("of(0, 3)", x.of(0, 3), 60);
        checks.due("of(1, 3), the half of 1", x.of(1, 3), 0);
        checks.due("of(2, 3), gone", x.of(2, 3), 0);
        Checks.hill(x, "wind 7");
        checks.due("pass(5)", x.pass(5), 65);
        checks.due("of(0, 3)", x.of(0, 3), 95);
        checks.due("of(1, 3), a half that is cut", x.of(1, 3), 15);
        checks.due("pass(1)", x.pass(1), 66);
        checks.due("of(0, 3), no more than 99", x.of(0, 3), 99);
        checks.due("pass(1)", x.pass(1), 67);
        checks.due("of(0, 3)", x.of(0, 3), 99);
        checks.due("of(1, 3)", x.of(1, 3), 21);
        Checks.hill(x, "wind 0");
        x.dry(0, 5);
        x.pass(9);
        checks.due("of(0, 3), no wind", x.of(0, 3), 5);
        checks.begin("12 pass, to the end");
        SlateHalves y = new SlateHalves();
        for (int i = 1; i <= 166; i++) {
            checks.due("pass(60)", y.pass(60), 60 * i);
        }
        checks.due("pass(40)", y.pass(40), -3);
        checks.due("pass(60)", y.pass(60), -3);
        checks.due("pass(61)", y.pass(61), -2);
        checks.due("told(0)", y.told(0), 9960);
        checks.due("pass(39)", y.pass(39), 9999);
        checks.due("pass(1)", y.pass(1), -3);
        checks.due("pass(0)", y.pass(0), 9999);
        y.block(6, 0, 20);
        y.row(0, 0, 8);
        // Behind 1 DAY it is DAY 10000, with the ROW's part 0 and no y.
        Checks.hill(y, "dear 9 y=0");
        y.week(0, 0);
        y.week(1, 0);
        checks.due("on(1, 10)", y.on(1, 10), 1);
        checks.due("of(0, 5)", y.of(0, 5), 10);
        y.block(0, 0, 5);
        checks.due("on(0, 21)", y.on(0, 21), 20);
        checks.due("on(1, 21)", y.on(1, 21), 38);
        checks.due("on(60, 21)", y.on(60, 21), 20);
        checks.due("told(0)", y.told(0), 9999);
    }

    private static void on() {
        checks.begin("13 on");
        SlateHalves x = new SlateHalves();
        checks.due("on(0, 0)", x.on(0, 0), 0);
        checks.due("on(0, 10)", x.on(0, 10), -1);
        checks.due("on(0, 20)", x.on(0, 20), -1);
        x.block(0, 0, 7);
        x.block(5, 0, 7);
        Checks.hill(x, "wind 3");
        checks.due("on(0, 0)", x.on(0, 0), 60);
        checks.due("on(3, 0)", x.on(3, 0), 60);
        checks.due("on(10, 10)", x.on(10, 10), 30);
        checks.due("on(10, 11)", x.on(10, 11), 10);
        checks.due("on(33, 10)", x.on(33, 10), 99);
        checks.due("on(34, 10)", x.on(34, 10), 99);
        checks.due("on(9, 20), GRIP 1", x.on(9, 20), 30);
        checks.due("on(10, 20), GRIP 0", x.on(10, 20), 20);
        checks.due("on(29, 21), GRIP 1", x.on(29, 21), 30);
        // The vein at 1 takes 1 off, which is worth nothing: 7, 6, 3 and 3, as without it.
        checks.due("on(30, 21), GRIP 0", x.on(30, 21), 20);
        checks.due("on(10, 0)", x.on(10, 0), 50);
        checks.due("on(60, 0)", x.on(60, 0), 40);
        checks.due("on(-1, 0)", x.on(-1, 0), -2);
        checks.due("on(61, 0)", x.on(61, 0), -2);
        checks.due("on(61, 12)", x.on(61, 12), -1);
        for (int what : new int[] {Integer.MIN_VALUE, -1, 1, 9, 12, 15, 16, 19, 22, 25, 26, 30, Integer.MAX_VALUE}) {
            checks.due("on(1, " + what + ")", x.on(1, what), -1);
        }
        checks.due("told(0)", x.told(0), 0);
        checks.due("of(0, 3)", x.of(0, 3), 0);
        x.sell(0);
        checks.due("on(10, 10), gone", x.on(10, 10), 0);
        checks.due("on(10, 20), gone", x.on(10, 20), 0);
        checks.due("on(10, 0)", x.on(10, 0), 30);
    }

    private static void lasts() {
        checks.begin("14 lasts");
        SlateHalves x = new SlateHalves();
        checks.due("lasts(-1)", x.lasts(-1), -2);
        checks.due("lasts(100000)", x.lasts(100000), -2);
        checks.due("lasts(99999)", x.lasts(99999), -5);
        checks.due("lasts(0)", x.lasts(0), 20);
        checks.due("lasts(1)", x.lasts(1), -5);
        x.block(0, 0, 7);
        Checks.hill(x, "wind 3");
        checks.due("lasts(30)", x.lasts(30), 9);
        checks.due("lasts(21)", x.lasts(21), 9);
        checks.due("lasts(20)", x.lasts(20), 20);
        checks.due("lasts(31)", x.lasts(31), -5);
        Checks.hill(x, "wind 0;dear 10 y=7");
        checks.due("lasts(31), again on day 17", x.lasts(31), 17);
        checks.due("lasts(60)", x.lasts(60), 17);
        checks.due("lasts(61)", x.lasts(61), -5);
        x.pass(7);
        checks.due("lasts(60)", x.lasts(60), 20);
        checks.due("told(0)", x.told(0), 7);
    }

    private static void order() {
        checks.begin("15 order");
        SlateHalves x = new SlateHalves();
        checks.due("order(-1)", x.order(-1), 0);
        checks.due("order(0)", x.order(0), -5);
        checks.due("order(-2)", x.order(-2), -1);
        checks.due("order(6)", x.order(6), -1);
        x.block(0, 0, 5);
        x.block(0, 0, 7);
        x.block(0, 0, 5);
        x.sell(0);
        x.block(0, 0, 7);
        x.dry(1, 29);
        x.dry(2, 9);
        x.dry(3, 28);
        // The first 7 brings 30 on day 0, 20 from day 1 on (GRIP 0); the other one 30 on days 0 and 1,
        // then 20; 5 brings 20 on all three.
        checks.due("on(0, 21)", x.on(0, 21), 30);
        checks.due("on(1, 21)", x.on(1, 21), 20);
        checks.due("on(1, 23)", x.on(1, 23), 30);
        checks.due("on(2, 23)", x.on(2, 23), 20);
        checks.due("on(2, 22)", x.on(2, 22), 20);
        checks.due("order(-1)", x.order(-1), 80);
        checks.due("order(0)", x.order(0), 1);
        checks.due("order(1)", x.order(1), 3);
        checks.due("order(2)", x.order(2), 2);
        checks.due("order(3)", x.order(3), -5);
        checks.due("order(5)", x.order(5), -5);
        checks.due("told(0)", x.told(0), 0);
        checks.begin("15 order, alike");
        SlateHalves y = new SlateHalves();
        for (int i = 0; i < 6; i++) {
            y.block(0, 0, 3);
        }
        y.sell(2);
        int[] due = {0, 1, 3, 4, 5, -5};
        for (int k = 0; k < 6; k++) {
            checks.due("order(" + k + ")", y.order(k), due[k]);
        }
        checks.due("order(-1)", y.order(-1), 50);
        checks.begin("15 order, the last day is dear for the first one");
        Checks.hill(y, "dear 50 b=0&y=4;dear 30 b=4&y=1;dear 30 b=5&y=1");
        int[] then = {1, 4, 3, 5, 0, -5};
        for (int k = 0; k < 6; k++) {
            checks.due("order(" + k + ")", y.order(k), then[k]);
        }
        checks.due("order(-1)", y.order(-1), 130);
    }

    private static void losesAndWorst() {
        checks.begin("16 loses");
        SlateHalves x = new SlateHalves();
        checks.due("loses(0)", x.loses(0), -1001);
        checks.due("loses(-1)", x.loses(-1), -1001);
        x.block(0, 0, 3);
        x.block(0, 0, 7);
        x.block(0, 0, 7);
        x.dry(1, 29);
        x.dry(2, 29);
        checks.due("loses(0)", x.loses(0), 0);
        checks.due("loses(1)", x.loses(1), 10);
        checks.due("loses(3)", x.loses(3), -1001);
        Checks.hill(x, "dear 20 b=0&y=1;dear 3 b=2");
        checks.due("loses(0), below 0", x.loses(0), -20);
        checks.due("loses(2)", x.loses(2), 13);
        checks.due("told(0)", x.told(0), 0);
        checks.begin("17 worst");
        checks.due("worst()", x.worst(), 2);
        Checks.hill(x, "dear 20 b=0&y=1");
        checks.due("worst(), the first of several", x.worst(), 1);
        x.sell(1);
        checks.due("worst(), that one gone", x.worst(), 2);
        x.sell(2);
        checks.due("worst(), all below 0", x.worst(), 0);
        checks.due("loses(2), gone", x.loses(2), 0);
        x.sell(0);
        checks.due("worst(), all gone", x.worst(), -5);
        checks.due("worst() of none", new SlateHalves().worst(), -5);
    }

    private static void see() {
        checks.begin("18 see");
        SlateHalves x = new SlateHalves();
        checks.due("see(1, 1, true)", x.see(1, 1, true), -2);
        checks.due("see(30, 61, true)", x.see(30, 61, true), -2);
        checks.due("see(0, 2, true)", x.see(0, 2, true), -2);
        checks.due("see(2, 2, true)", x.see(2, 2, true), -2);
        checks.due("see(-2, 2, true)", x.see(-2, 2, true), -2);
        checks.due("see(1, 2, true)", x.see(1, 2, true), 1);
        checks.due("see(59, 60, false)", x.see(59, 60, false), 2);
        checks.due("count(2)", x.count(2), 2);
        for (int i = 3; i <= 6; i++) {
            checks.due("see(5, 9, true)", x.see(5, 9, true), i);
        }
        checks.due("see(5, 9, true), the 7th", x.see(5, 9, true), -4);
        checks.due("see(9, 9, true), the 7th", x.see(9, 9, true), -2);
        checks.due("see(-1, 99, true)", x.see(-1, 99, true), 0);
        checks.due("count(2)", x.count(2), 0);
        checks.due("see(-1, 2, false)", x.see(-1, 2, false), 0);
        checks.due("see(5, 9, true)", x.see(5, 9, true), 1);
    }

    private static void dryness() {
        checks.begin("19 dryness");
        SlateHalves x = new SlateHalves();
        checks.due("dryness(0, 0)", x.dryness(0, 0), -1);
        x.block(0, 0, 5);
        x.block(1, 9, 5);
        x.block(2, 4, 5);
        x.dry(0, 77);
        checks.due("dryness(0, 0)", x.dryness(0, 0), 100);
        checks.due("dryness(0, 1)", x.dryness(0, 1), 0);
        checks.due("dryness(0, 2)", x.dryness(0, 2), -1);
        checks.due("dryness(0, -1)", x.dryness(0, -1), -1);
        checks.due("dryness(3, 0)", x.dryness(3, 0), -1);
        x.see(5, 12, true);
        dryness(x, 0, 20, 0);
        dryness(x, 1, 50, 0);
        dryness(x, 2, 100, 0);
        x.see(4, 11, false);
        dryness(x, 0, 10, 10);
        dryness(x, 1, 10, 40);
        dryness(x, 2, 90, 10);
        x.see(6, 12, false);
        dryness(x, 0, 0, -5);
        x.see(-1, 0, true);
        x.see(3, 7, false);
        dryness(x, 0, 70, 30);
        dryness(x, 1, 40, 60);
        x.sell(0);
        dryness(x, 0, 70, 30);
        checks.due("of(0, 3)", x.of(0, 3), 77);
        checks.begin("19 dryness, TOLD, by the day's ROW");
        SlateHalves y = new SlateHalves();
        y.block(6, 9, 20);
        y.row(0, 1, 4);
        y.see(8, 12, true);
        dryness(y, 0, 0, -5);
        y.pass(1);
        dryness(y, 0, 100, 0);
    }

    private static void dryness(SlateHalves x, int block, int many, int least) {
        checks.due("dryness(" + block + ", 0)", x.dryness(block, 0), many);
        checks.due("dryness(" + block + ", 1)", x.dryness(block, 1), least);
    }

    private static void can() {
        checks.begin("20 can");
        SlateHalves x = new SlateHalves();
        checks.due("can(0, 0)", x.can(0, 0), -1);
        for (int kind = 0; kind < 5; kind++) {
            x.block(kind, 2, 5);
        }
        checks.due("can(0, 2)", x.can(0, 2), -1);
        checks.due("can(0, -1)", x.can(0, -1), -1);
        checks.due("can(5, 0)", x.can(5, 0), -1);
        for (int i = 0; i < 5; i++) {
            can(x, i, 10, 0);
        }
        // Four apart: only what is firmer by v, or veined there.
        x.see(4, 12, true);
        can(x, 0, 0, -5);
        can(x, 1, 7, 3);
        can(x, 2, 1, 3);
        can(x, 3, 0, -5);
        can(x, 4, 7, 3);
        x.see(5, 15, false);
        can(x, 1, 3, 3);
        x.dry(1, 10);
        can(x, 1, 3, 6);
        x.see(-1, 0, false);
        x.see(6, 12, false);
        can(x, 3, 1, 5);
        can(x, 2, 0, -5);
        x.see(-1, 0, false);
        x.see(5, 12, true);
        can(x, 3, 9, 0);
        can(x, 2, 10, 0);
        checks.due("of(3, 1)", x.of(3, 1), 2);
    }

    private static void can(SlateHalves x, int block, int many, int least) {
        checks.due("can(" + block + ", 0)", x.can(block, 0), many);
        checks.due("can(" + block + ", 1)", x.can(block, 1), least);
    }

    private static void odds() {
        checks.begin("21 odds");
        SlateHalves x = new SlateHalves();
        x.block(0, 0, 13);
        x.block(0, 0, 1);
        x.block(0, 0, 2);
        x.block(0, 0, 21);
        checks.due("odds(0, 0)", x.odds(0, 0), 1);
        checks.due("odds(0, 1)", x.odds(0, 1), 3);
        checks.due("odds(1, 0)", x.odds(1, 0), SlateHalves.NO);
        checks.due("odds(2, 0)", x.odds(2, 0), 1);
        checks.due("odds(2, 1)", x.odds(2, 1), 1);
        x.dry(3, 30);
        checks.due("odds(3, 0), none", x.odds(3, 0), 0);
        checks.due("odds(3, 1), none", x.odds(3, 1), 1);
        x.dry(3, 20);
        checks.due("odds(3, 0)", x.odds(3, 0), 1);
        checks.due("odds(3, 1)", x.odds(3, 1), 10);
        checks.due("odds(0, -1)", x.odds(0, -1), SlateHalves.NO);
        checks.due("odds(0, 2)", x.odds(0, 2), SlateHalves.NO);
        checks.due("odds(4, 0)", x.odds(4, 0), SlateHalves.NO);
        checks.due("odds(-1, 0)", x.odds(-1, 0), SlateHalves.NO);
        x.sell(0);
        checks.due("odds(0, 0), gone", x.odds(0, 0), SlateHalves.NO);
        x.block(0, 0, 12);
        checks.due("odds(4, 0)", x.odds(4, 0), 3);
        checks.due("odds(4, 1)", x.odds(4, 1), 11);
    }

    private static void mean() {
        checks.begin("22 mean");
        SlateHalves x = new SlateHalves();
        checks.due("mean(0)", x.mean(0), SlateHalves.NO);
        checks.due("mean(1)", x.mean(1), SlateHalves.NO);
        x.block(0, 0, 9);
        checks.due("mean(0)", x.mean(0), 9);
        checks.due("mean(1)", x.mean(1), 1);
        x.block(0, 0, 4);
        checks.due("mean(0)", x.mean(0), 13);
        checks.due("mean(1)", x.mean(1), 2);
        x.block(0, 0, 5);
        checks.due("mean(0)", x.mean(0), 6);
        checks.due("mean(1)", x.mean(1), 1);
        x.block(0, 0, 8);
        checks.due("mean(0)", x.mean(0), 13);
        checks.due("mean(1)", x.mean(1), 2);
        checks.due("mean(2)", x.mean(2), SlateHalves.NO);
        checks.due("mean(-1)", x.mean(-1), SlateHalves.NO);
        x.sell(0);
        checks.due("mean(0), one gone", x.mean(0), 17);
        checks.due("mean(1), one gone", x.mean(1), 3);
        x.sell(1);
        x.sell(2);
        x.sell(3);
        checks.due("mean(0), all gone", x.mean(0), SlateHalves.NO);
    }

    private static void week() {
        checks.begin("23 week");
        SlateHalves x = new SlateHalves();
        checks.due("week(1, 0)", x.week(1, 0), -1);
        checks.due("week(2, 0)", x.week(2, 0), -1);
        checks.due("week(3, 0)", x.week(3, 0), -1);
        checks.due("week(-2, 0)", x.week(-2, 0), -1);
        checks.due("week(0, 99)", x.week(0, 99), 1);
        x.block(0, 0, 5);
        checks.due("week(1, 0)", x.week(1, 0), 2);
        checks.due("week(2, 0)", x.week(2, 0), 3);
        checks.due("week(2, 1)", x.week(2, 1), -1);
        checks.due("week(2, -1)", x.week(2, -1), -1);
        for (int i = 4; i <= 10; i++) {
            checks.due("week(0, -7)", x.week(0, -7), i);
        }
        checks.due("week(0, 0), the 11th", x.week(0, 0), -4);
        checks.due("week(1, 1), the 11th", x.week(1, 1), -1);
        checks.due("count(3)", x.count(3), 10);
        checks.due("week(-1, 99)", x.week(-1, 99), 0);
        checks.due("count(3)", x.count(3), 0);
    }

    private static void ends() {
        checks.begin("24 ends");
        SlateHalves x = new SlateHalves();
        checks.due("ends(-1)", x.ends(-1), -1);
        checks.due("ends(2)", x.ends(2), -1);
        checks.due("ends(0)", x.ends(0), 0);
        x.block(0, 0, 7);
        x.block(0, 0, 7);
        x.block(0, 0, 3);
        checks.due("ends(1)", x.ends(1), 3);
        x.week(1, 0);
        checks.due("ends(0)", x.ends(0), 5);
        checks.due("ends(1)", x.ends(1), 2);
        x.week(2, 0);
        checks.due("ends(0), who is gone", x.ends(0), 5);
        x.week(2, 1);
        checks.due("ends(0)", x.ends(0), 35);
        checks.due("ends(1)", x.ends(1), 1);
        x.week(1, 1);
        checks.due("ends(0), who is gone", x.ends(0), 35);
        checks.due("of(0, 2)", x.of(0, 2), 7);
        checks.due("told(4)", x.told(4), 0);
        x.sell(2);
        x.week(2, 2);
        checks.due("ends(0), who was gone", x.ends(0), 35);
        checks.due("told(4)", x.told(4), 10);
        checks.due("ends(1)", x.ends(1), 0);
        x.week(-1, 0);
        Checks.hill(x, "wind 30;dear 6 y=2");
        x.week(2, 0);
        x.week(0, 0);
        x.week(0, 0);
        x.week(2, 1);
        // 30 on day 0; on day 2 the price is 16, with GRIP 0: 7, 6, 3 and 3.
        checks.due("ends(0)", x.ends(0), 62);
        checks.due("told(0)", x.told(0), 0);
        checks.due("of(1, 3)", x.of(1, 3), 0);
        checks.due("of(1, 2)", x.of(1, 2), 7);
    }

    private static void book() {
        checks.begin("25 book");
        SlateHalves x = new SlateHalves();
        checks.due("book(0, 0)", x.book(0, 0), -1);
        checks.due("book(-2, 0)", x.book(-2, 0), -1);
        checks.due("book(0, 61)", x.book(0, 61), -1);
        x.block(0, 0, 5);
        checks.due("book(0, 0)", x.book(0, 0), 1);
        checks.due("book(0, 60)", x.book(0, 60), 2);
        checks.due("book(0, 61)", x.book(0, 61), -2);
        checks.due("book(0, -1)", x.book(0, -1), -2);
        checks.due("book(1, 5)", x.book(1, 5), -1);
        for (int i = 3; i <= 8; i++) {
            checks.due("book(0, 5)", x.book(0, 5), i);
        }
        checks.due("book(0, 5), the 9th", x.book(0, 5), -4);
        checks.due("book(0, 61), the 9th", x.book(0, 61), -2);
        checks.due("count(4)", x.count(4), 8);
        checks.due("book(-1, 99)", x.book(-1, 99), 0);
        checks.due("count(4)", x.count(4), 0);
    }

    private static void looked() {
        checks.begin("26 looked");
        SlateHalves x = new SlateHalves();
        checks.due("looked()", x.looked(), -5);
        x.block(0, 0, 5);
        x.block(0, 0, 20);
        x.book(1, 20);
        x.book(0, 5);
        checks.due("looked()", x.looked(), -5);
        x.book(0, 6);
        checks.due("looked()", x.looked(), 2);
        x.book(1, 9);
        checks.due("looked(), the first of two", x.looked(), 2);
        x.sell(0);
        checks.due("looked()", x.looked(), 1);
        x.strike(1, 10);
        checks.due("looked()", x.looked(), 0);
        x.book(-1, 0);
        x.book(0, 0);
        checks.due("looked(), told as gone", x.looked(), -5);
    }
}

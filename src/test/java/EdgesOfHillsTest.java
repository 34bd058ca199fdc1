/** The edges that the document names for promises 9 to 11 and for the texts of HILLS, a test for each sentence. */
public final class EdgesOfHillsTest {
    private static final Checks checks = new Checks();

    public static void main(String[] args) {
        feedEdges();
        feedRoom();
        fullTextReads();
        clauseNumber();
        clauseBetween();
        words();
        blanks();
        digits();
        letters();
        brackets();
        operators();
        ends();
        hillNumbers();
        hillRoom();
        hillText();
        hillHolds();
        priceTogether();
        priceLeast();
        priceTests();
        priceCuts();
        priceOrder();
        thinEdges();
        mostEdges();
        windEdges();
        lastOfAll();
        toldEdges();
        checks.end();
    }

    private static String many(int times, String text, String between) {
        return (text + between).repeat(times - 1) + text;
    }

    private static void right(String text) {
        checks.due("hill() of '" + text + "'", Checks.hill(new SlateHalves(), text), 0);
    }

    private static void fault(String text, int place) {
        checks.due("hill() of '" + text + "'", Checks.hill(new SlateHalves(), text), -10 - place);
    }

    private static void feedEdges() {
        checks.begin("9, 'A sign (0 .. 127)'");
        SlateHalves x = new SlateHalves();
        checks.due("feed(-1)", x.feed(-1), -2);
        checks.due("feed(0)", x.feed(0), 1);
        checks.due("feed(127)", x.feed(127), 2);
        checks.due("feed(128)", x.feed(128), -2);
        checks.due("count(5)", x.count(5), 2);
        checks.due("hill(), 0 begins none", x.hill(), -10);
        fault("wind 1\0", 6);
        fault("wind 1\177", 6);
    }

    private static void feedRoom() {
        checks.begin("9, 'bytes, 100 at most'; 'FULL'");
        SlateHalves x = new SlateHalves();
        for (int i = 1; i <= 100; i++) {
            checks.due("feed(32)", x.feed(32), i);
        }
        checks.due("feed(32), the 101st", x.feed(32), -4);
        checks.due("feed(-1), the 101st", x.feed(-1), -2);
        checks.due("count(5)", x.count(5), 100);
        checks.due("hill()", x.hill(), -10);
        checks.due("count(5), empty then", x.count(5), 0);
        checks.due("feed(32)", x.feed(32), 1);
    }

    private static void fullTextReads() {
        checks.begin("9, 10, a text of 99 and of 100 bytes, to its last one");
        String tests = many(22, "b=1", "|");
        SlateHalves x = new SlateHalves();
        x.block(0, 0, 5);
        checks.due("100", ("dear 23 " + tests + "|b=00").length(), 100);
        checks.due("the last of 100 bytes counts", Checks.hill(x, "dear 23 " + tests + "|b=00"), 0);
        checks.due("of(0, 5)", x.of(0, 5), 33);
        checks.due("the last of 100 bytes counts", Checks.hill(x, "dear 23 " + tests + "|b=01"), 1);
        checks.due("of(0, 5)", x.of(0, 5), 10);
        checks.due("the last of 99 bytes counts", Checks.hill(x, "dear 24 " + tests + "|b=0"), 2);
        checks.due("of(0, 5)", x.of(0, 5), 34);
        fault("dear 23 " + tests + "|b=0;", 100);
        fault("dear 23 " + tests + "|b=0&", 100);
        fault("dear 23 " + tests + "|b=0 ", 99);
    }

    private static void clauseNumber() {
        checks.begin("10, 'CLAUSES, 1 to 10'");
        fault("", 0);
        right("wind 1");
        right(many(9, "wind 1", ";"));
        right(many(10, "wind 1", ";"));
        fault(many(11, "wind 1", ";"), 69);
        fault(many(10, "wind 1", ";") + ";", 69);
        fault(many(9, "wind 1", ";") + ";", 63);
        SlateHalves x = new SlateHalves();
        checks.due("ten", Checks.hill(x, many(9, "wind 1", ";") + ";wind 7"), 0);
        checks.due("told(3), the tenth counts", x.told(3), 7);
        checks.due("eleven", Checks.hill(x, many(10, "wind 1", ";") + ";wind 9"), -79);
        checks.due("told(3)", x.told(3), 7);
    }

    private static void clauseBetween() {
        checks.begin("10, 'with ; between'");
        fault(";", 0);
        fault(";thin 1", 0);
        fault("thin 1;", 7);
        fault("thin 1;;thin 1", 7);
        fault("thin 1,thin 1", 6);
        fault("thin 1 thin 1", 6);
        fault("thin 1thin 1", 6);
        fault("dear 1 b=1dear 1 b=1", 10);
        right("dear 1 b=1;dear 1 b=1");
        right("thin 12;thin 1");
    }

    private static void words() {
        checks.begin("10, the words, and each of their prefixes");
        for (String word : new String[] {"dear", "cheap", "thin", "thick", "wind"}) {
            for (int i = 0; i < word.length(); i++) {
                fault(word.substring(0, i), i);
                fault(word.substring(0, i) + "x", i);
                fault(word.substring(0, i) + " 1 b=1", i);
            }
            fault(word, word.length());
            fault(word + "x", word.length());
            fault(word.toUpperCase() + " 1", 0);
            fault(" " + word + " 1", 0);
        }
        fault("chin 1", 2);
        fault("thind 1", 4);
        fault("thinck 1", 4);
        fault("deap 1 b=1", 3);
        fault("winn 1", 3);
    }

    private static void blanks() {
        checks.begin("10, 'one blank ahead of each part behind the word'");
        fault("thin1", 4);
        fault("thin  1", 5);
        fault("thin\t1", 4);
        fault("dear1 b=1", 4);
        fault("dear  1 b=1", 5);
        fault("dear 1b=1", 6);
        fault("dear 1  b=1", 7);
        fault("dear 1 b =1", 8);
        fault("dear 1 b= 1", 9);
        fault("dear 1 b=1 ", 10);
        fault("dear 1 b=1 &b=1", 10);
        fault("dear 1 b=1& b=1", 11);
        fault("dear 1 ( b=1)", 8);
        fault("dear 1 (b=1 )", 11);
        fault("dear 1 ! b=1", 8);
        fault("thin 1 ", 6);
        fault("thin 1 ;thin 1", 6);
        fault("thin 1; thin 1", 7);
        right("dear 1 b=1");
    }

    private static void digits() {
        checks.begin("10, 'n 1 or 2 digits'; 'a number (1 or 2 digits)'");
        for (String word : new String[] {"thin", "thick", "wind"}) {
            int at = word.length() + 1;
            fault(word + " ", at);
            fault(word + " x", at);
            fault(word + " -1", at);
            fault(word + " +1", at);
            right(word + " 0");
            right(word + " 9");
            right(word + " 00");
            right(word + " 99");
            fault(word + " 100", at + 2);
            fault(word + " 000", at + 2);
            fault(word + " /", at);
            fault(word + " :", at);
            fault(word + " 1:", at + 1);
            fault(word + " 1/", at + 1);
        }
        fault("dear  b=1", 5);
        right("dear 0 b=1");
        right("cheap 99 b=1");
        fault("cheap 100 b=1", 8);
        fault("dear 1 b=", 9);
        fault("dear 1 b=x", 9);
        right("dear 1 b=0");
        right("dear 1 b=99");
        fault("dear 1 b=100", 11);
        fault("dear 1 b=-1", 9);
    }

    private static void letters() {
        checks.begin("10, 'a letter, < or = or >'");
        for (char c = 32; c < 127; c++) {
            String text = "dear 1 " + c + "=1";
            if ("bkvtdy".indexOf(c) >= 0) {
                right(text);
            } else if (c == '(' || c == '!') {
                fault(text, 8);
            } else {
                fault(text, 7);
            }
        }
        for (char c = 32; c < 127; c++) {
            String text = "dear 1 b" + c + "1";
            if ("<=>".indexOf(c) >= 0) {
                right(text);
            } else {
                fault(text, 8);
            }
        }
        fault("dear 1 b==1", 9);
        fault("dear 1 b<=1", 9);
        fault("dear 1 1=b", 7);
    }

    private static void brackets() {
        checks.begin("10, 'A ( or ! within 4 others is none'");
        right("dear 1 ((((b=1))))");
        fault("dear 1 (((((b=1)))))", 11);
        right("dear 1 !!!!b=1");
        fault("dear 1 !!!!!b=1", 11);
        right("dear 1 (!(!b=1))");
        fault("dear 1 (!(!(b=1)))", 11);
        fault("dear 1 (!(!!b=1))", 11);
        fault("dear 1 !!!!(b=1)", 11);
        fault("dear 1 ((((!b=1))))", 11);
        right("dear 1 !!!(b=1)&!!!!b=2|((((b=3))))");
        right("dear 1 (!!!b=1&!!!b=2|(((b=3)))&!((b=4)))");
        fault("dear 1 (!!!b=1&!!!!b=2)", 18);
        fault("dear 1 (!!!b=1|((((b=2)))))", 18);
        right("dear 1 ((((b=1))))|((((b=1))))&!!!!b=1;cheap 1 ((((b=1))))");
        fault("dear 1 ((((b=1))))|(((((b=1)))))", 23);
        right("dear 1 !b=1|!b=1|!b=1|!b=1|!b=1|!b=1");
        right("dear 1 (b=1)&(b=1)&(b=1)&(b=1)&(b=1)&(b=1)");
        checks.begin("10, ( and ) by twos");
        fault("dear 1 ()", 8);
        fault("dear 1 )", 7);
        fault("dear 1 (b=1", 11);
        fault("dear 1 (b=1;thin 1", 11);
        fault("dear 1 (b=1))", 12);
        fault("dear 1 b=1)", 10);
        fault("dear 1 (b=1)(b=2)", 12);
        fault("dear 1 (b=1)b=2", 12);
        fault("dear 1 (b=1)!b=2", 12);
        fault("dear 1 ((b=1)", 13);
    }

    private static void operators() {
        checks.begin("10, 'E: T or T|E. T: F or F&T. F: !F, (E), or a TEST'");
        fault("dear 1 &b=1", 7);
        fault("dear 1 |b=1", 7);
        fault("dear 1 b=1&", 11);
        fault("dear 1 b=1|", 11);
        fault("dear 1 b=1&|b=1", 11);
        fault("dear 1 b=1||b=1", 11);
        fault("dear 1 b=1&&b=1", 11);
        fault("dear 1 b=1!b=1", 10);
        fault("dear 1 !", 8);
        fault("dear 1 !&b=1", 8);
        fault("dear 1 !)", 8);
        right("dear 1 b=1&b=1|b=1&b=1|!b=1");
        right("dear 1 b=12&b=12|b=12");
    }

    private static void ends() {
        checks.begin("10, 'the end of THE TEXT, if it ends too early'");
        String text = "dear 12 !(b=12&k>3|v<0);cheap 5 t=1";
        boolean[] isRight = new boolean[text.length() + 1];
        isRight[23] = true;
        isRight[35] = true;
        for (int i = 0; i <= text.length(); i++) {
            if (isRight[i]) {
                right(text.substring(0, i));
            } else {
                fault(text.substring(0, i), i);
            }
        }
    }

    private static void hillNumbers() {
        checks.begin("10, 'its number'; a text with a fault has none");
        SlateHalves x = new SlateHalves();
        for (int i = 0; i <= 5; i++) {
            checks.due("a fault", Checks.hill(x, "wind"), -14);
            checks.due("count(1)", x.count(1), i);
            checks.due("a hill", Checks.hill(x, "wind " + (i + 3)), i);
            checks.due("told(3)", x.told(3), i + 3);
        }
    }

    private static void hillRoom() {
        checks.begin("10, 'FULL: there are 6 (THE TEXT stays)'");
        SlateHalves x = new SlateHalves();
        for (int i = 0; i <= 5; i++) {
            checks.due("a hill", Checks.hill(x, "wind " + (i + 3)), i);
        }
        checks.due("an empty text, the 7th", x.hill(), -4);
        checks.due("the 7th", Checks.hill(x, "thin 9"), -4);
        checks.due("count(5)", x.count(5), 6);
        checks.due("feed('9')", x.feed('9'), 7);
        checks.due("again", x.hill(), -4);
        checks.due("count(1)", x.count(1), 6);
        checks.due("told(1)", x.told(1), 2);
        checks.due("told(3), the sixth holds", x.told(3), 8);
        SlateHalves y = new SlateHalves();
        for (int i = 0; i < 6; i++) {
            Checks.hill(y, "thin 3");
        }
        y.feed('?');
        checks.due("the 7th, with a fault: FULL is named first", y.hill(), -4);
        checks.due("count(5)", y.count(5), 1);
    }

    private static void hillText() {
        checks.begin("10, 'THE TEXT, which is empty then'");
        SlateHalves x = new SlateHalves();
        checks.due("thin 3", Checks.hill(x, "thin 3"), 0);
        checks.due("count(5)", x.count(5), 0);
        checks.due("hill() of nothing", x.hill(), -10);
        checks.due("a fault", Checks.hill(x, "thin ?"), -15);
        checks.due("count(5), behind a fault too", x.count(5), 0);
        checks.due("a shorter text, nothing of the older ones", Checks.hill(x, "thin"), -14);
        checks.due("a hill", Checks.hill(x, "thin 4"), 1);
    }

    private static void hillHolds() {
        checks.begin("10, 'the one that held holds'; 'The newest HILL holds'; 'without one there are no CLAUSES'");
        SlateHalves x = new SlateHalves();
        x.block(0, 0, 5);
        checks.due("a fault behind right CLAUSES", Checks.hill(x, "thin 4;thick 9;wind 9;dear 5 b=0;"), -43);
        int[] without = {2, 5, 1};
        for (int what = 1; what <= 3; what++) {
            checks.due("told(" + what + "), still none", x.told(what), without[what - 1]);
        }
        checks.due("of(0, 5), still none", x.of(0, 5), 10);
        checks.due("the first", Checks.hill(x, "thin 3;thick 8;wind 6;dear 4 b=0"), 0);
        checks.due("a fault", Checks.hill(x, "thin 4;thick 9;wind 9;dear 5 b=0;"), -43);
        int[] first = {3, 8, 6};
        for (int what = 1; what <= 3; what++) {
            checks.due("told(" + what + "), the first holds", x.told(what), first[what - 1]);
        }
        checks.due("of(0, 5), the first holds", x.of(0, 5), 14);
        checks.due("a newer one", Checks.hill(x, "cheap 1 b=9"), 1);
        for (int what = 1; what <= 3; what++) {
            checks.due("told(" + what + "), nothing of the first", x.told(what), without[what - 1]);
        }
        checks.due("of(0, 5), nothing of the first", x.of(0, 5), 10);
    }

    private static int price(String hill) {
        return Given.blockBy(hill, 0, 0, 5).of(0, 5);
    }

    private static void priceTogether() {
        checks.begin("10, PRICE: '10, and the n of all dear whose E holds, less those of all cheap'");
        checks.due("no hill", Given.block(0, 0, 5).of(0, 5), 10);
        checks.due("no dear, no cheap", price("thin 3"), 10);
        checks.due("dear 0", price("dear 0 b=0"), 10);
        checks.due("dear 1", price("dear 1 b=0"), 11);
        checks.due("dear 99", price("dear 99 b=0"), 109);
        checks.due("not so", price("dear 99 b=1"), 10);
        checks.due("eight of them", price(many(8, "dear 99 b=0", ";")), 802);
        checks.due("cheap, not so", price("cheap 99 b=1"), 10);
    }

    private static void priceLeast() {
        checks.begin("10, PRICE: 'together (0 at least)'");
        checks.due("cheap 9", price("cheap 9 b=0"), 1);
        checks.due("cheap 10", price("cheap 10 b=0"), 0);
        checks.due("cheap 11", price("cheap 11 b=0"), 0);
        checks.due("all cheap", price(many(7, "cheap 99 b=0", ";")), 0);
        checks.due("0 only at the end", price("cheap 30 b=0;dear 21 b=0"), 1);
        checks.due("cheap in two", price("cheap 6 b=0;dear 1 b=0;cheap 6 b=0"), 0);
        checks.due("1 is left", price("cheap 6 b=0;dear 3 b=0;cheap 6 b=0"), 1);
    }

    /** PRICE of the third BLOCK, HARD (v 7, t 35, d 68) on DAY 15: each letter has a number of its own. */
    private static void test(String test, boolean holds) {
        SlateHalves x = new SlateHalves();
        x.pass(15);
        x.block(0, 0, 1);
        x.block(0, 0, 1);
        x.block(4, 7, 35);
        x.dry(2, 68);
        checks.due(test, Checks.hill(x, "dear 1 " + test), 0);
        checks.due(test + ": of(2, 5)", x.of(2, 5), holds ? 11 : 10);
    }

    private static void priceTests() {
        checks.begin("10, '<, =, >' at their edges, of each letter");
        String letters = "bkvtdy";
        int[] is = {2, 4, 7, 3, 6, 5};
        for (int i = 0; i < letters.length(); i++) {
            for (int n = is[i] - 1; n <= is[i] + 1; n++) {
                test(letters.charAt(i) + "<" + n, is[i] < n);
                test(letters.charAt(i) + "=" + n, is[i] == n);
                test(letters.charAt(i) + ">" + n, is[i] > n);
                test(letters.charAt(i) + "=0" + n, is[i] == n);
            }
            test(letters.charAt(i) + "=" + is[i] + "0", false);
            test(letters.charAt(i) + "<" + is[i] + "0", true);
            test(letters.charAt(i) + ">99", false);
        }
    }

    private static void priceCuts() {
        checks.begin("10, 't THICK by 10 (cut)'");
        int[][] thicks = {{1, 0}, {9, 0}, {10, 1}, {19, 1}, {20, 2}, {59, 5}, {60, 6}};
        for (int[] t : thicks) {
            checks.due(t[0] + " thick", Given.blockBy("dear 1 t=" + t[1], 0, 0, t[0]).of(0, 5), 11);
        }
        checks.begin("10, 'd DRY by 10 (cut)'");
        int[][] drys = {{0, 0}, {9, 0}, {10, 1}, {89, 8}, {90, 9}, {99, 9}};
        for (int[] d : drys) {
            SlateHalves x = Given.blockBy("dear 1 d=" + d[1], 0, 0, 5);
            x.dry(0, d[0]);
            checks.due("DRY " + d[0], x.of(0, 5), 11);
        }
        checks.begin("10, 'y DAY modulo 10'");
        int[][] days = {{0, 0}, {1, 1}, {9, 9}, {10, 0}, {11, 1}, {19, 9}, {20, 0}, {60, 0}};
        for (int[] d : days) {
            SlateHalves x = Given.blockBy("dear 1 y=" + d[1], 0, 0, 5);
            x.pass(d[0]);
            checks.due("DAY " + d[0], x.of(0, 5), 11);
        }
        checks.due("DAY 10, y=10", price("dear 1 y=10"), 10);
    }

    private static void priceOrder() {
        checks.begin("10, ! and & and |, which holds together more");
        boolean[] both = {false, true};
        for (boolean a : both) {
            for (boolean b : both) {
                for (boolean c : both) {
                    String p = a ? "b=2" : "b=3";
                    String q = b ? "k=4" : "k=5";
                    String r = c ? "v=7" : "v=8";
                    test(p + "|" + q + "&" + r, a || b && c);
                    test(p + "&" + q + "|" + r, a && b || c);
                    test("(" + p + "|" + q + ")&" + r, (a || b) && c);
                    test(p + "&(" + q + "|" + r + ")", a && (b || c));
                    test("!" + p + "&" + q + "|" + r, !a && b || c);
                    test("!" + p + "|" + q + "&" + r, !a || b && c);
                    test("!(" + p + "|" + q + ")&" + r, !(a || b) && c);
                    test("!(" + p + "&" + q + ")|!" + r, !(a && b) || !c);
                    test(p + "|" + q + "|" + r, a || b || c);
                    test(p + "&" + q + "&" + r, a && b && c);
                    test("!!" + p + "&!!!" + q + "&!!!!" + r, a && !b && c);
                }
            }
        }
    }

    private static void told(String hill, int what, int due) {
        SlateHalves x = new SlateHalves();
        checks.due(hill, Checks.hill(x, hill), 0);
        checks.due(hill + ": told(" + what + ")", x.told(what), due);
    }

    private static void thinEdges() {
        checks.begin("11, 'THIN (2 without; 1 if less)'");
        checks.due("no hill", new SlateHalves().told(1), 2);
        told("wind 9;thick 9", 1, 2);
        told("thin 0", 1, 1);
        told("thin 00", 1, 1);
        told("thin 1", 1, 1);
        told("thin 2", 1, 2);
        told("thin 99", 1, 99);
    }

    private static void mostEdges() {
        checks.begin("11, 'MOST (5 without; THIN if less)'");
        checks.due("no hill", new SlateHalves().told(2), 5);
        told("wind 9", 2, 5);
        told("thin 4", 2, 5);
        told("thin 5", 2, 5);
        told("thin 6", 2, 6);
        told("thin 99", 2, 99);
        told("thin 7;thick 6", 2, 7);
        told("thin 7;thick 7", 2, 7);
        told("thin 7;thick 8", 2, 8);
        told("thick 8;thin 9", 2, 9);
        told("thick 0", 2, 2);
        told("thick 1", 2, 2);
        told("thick 2", 2, 2);
        told("thick 3", 2, 3);
        told("thin 0;thick 0", 2, 1);
        told("thick 99", 2, 99);
    }

    private static void windEdges() {
        checks.begin("11, 'WIND (1 without)'");
        checks.due("no hill", new SlateHalves().told(3), 1);
        told("thin 9;thick 9", 3, 1);
        told("wind 0", 3, 0);
        told("wind 1", 3, 1);
        told("wind 99", 3, 99);
    }

    private static void lastOfAll() {
        checks.begin("11, 'the last n of thin, of thick', 'of wind'");
        told("thin 9;thin 3", 1, 3);
        told("thin 3;thin 9", 1, 9);
        told("thin 3;thin 0", 1, 1);
        told("thick 9;thick 7", 2, 7);
        told("thick 7;thick 9", 2, 9);
        told("thin 3;thick 9;thick 0", 2, 3);
        told("wind 9;wind 0", 3, 0);
        told("wind 0;wind 9", 3, 9);
        told("wind 4;thin 5;dear 7 b=0;thick 6", 3, 4);
    }

    private static void toldEdges() {
        checks.begin("11, what 0 .. 5");
        SlateHalves x = Given.blockBy("thin 3;thick 4;wind 6", 0, 0, 6);
        x.block(0, 0, 3);
        x.pass(8);
        x.sell(1);
        checks.due("told(-1)", x.told(-1), -1);
        int[] due = {8, 3, 4, 6, 10, 20};
        x.dry(0, 0);
        for (int what = 0; what <= 5; what++) {
            checks.due("told(" + what + ")", x.told(what), due[what]);
        }
        checks.due("told(6)", x.told(6), -1);
    }
}

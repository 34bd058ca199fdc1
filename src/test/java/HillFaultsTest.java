import java.util.Random;

/** Where the FAULT of a text is: the program against the grammar's rules in Model, sign by sign. */
public final class HillFaultsTest {
    public static void main(String[] args) {
        Checks checks = new Checks();
        checks.begin("known faults");
        known(checks, "", 0);
        known(checks, "dear", 4);
        known(checks, "dear ", 5);
        known(checks, "dear 1", 6);
        known(checks, "dear 12", 7);
        known(checks, "dear 123 b=1", 7);
        known(checks, "dear 1  b=1", 7);
        known(checks, "dear 1 b", 8);
        known(checks, "dear 1 b=", 9);
        known(checks, "dear 1 b=1", -1);
        known(checks, "dear 1 b=12", -1);
        known(checks, "dear 1 b=123", 11);
        known(checks, "dear 1 b=1 ", 10);
        known(checks, "dear 1 b=1)", 10);
        known(checks, "dear 1 (b=1", 11);
        known(checks, "dear 1 (b=1;", 11);
        known(checks, "dear 1 (b=1)", -1);
        known(checks, "dear 1 ()", 8);
        known(checks, "dear 1 b=1&", 11);
        known(checks, "dear 1 b=1&&", 11);
        known(checks, "dear 1 b=1|&", 11);
        known(checks, "dear 1 B=1", 7);
        known(checks, "dear 1 b!1", 8);
        known(checks, "dear 1 !!!!b=1", -1);
        known(checks, "dear 1 !!!!!b=1", 11);
        known(checks, "dear 1 ((((b=1))))", -1);
        known(checks, "dear 1 (((((b=1)))))", 11);
        known(checks, "dear 1 !(!(b=1&!b=2", 15);
        known(checks, "dear 1 !(!b=1&!(b=2|!k=1))&!(v=0)", 20);
        known(checks, "dear 1 !(!b=1&!(b=2|k=1))&!(v=0)", -1);
        known(checks, "dear 1 (!((!b=1)))", 11);
        known(checks, "dear 1 !b=1&!b=1&!b=1&!b=1&!b=1&!b=1", -1);
        known(checks, "d", 1);
        known(checks, "x", 0);
        known(checks, "dh", 1);
        known(checks, "thi", 3);
        known(checks, "thid", 3);
        known(checks, "thinn 1", 4);
        known(checks, "thick", 5);
        known(checks, "thic 1", 4);
        known(checks, "cheat 1", 4);
        known(checks, "wint", 3);
        known(checks, "thin 1 ", 6);
        known(checks, "thin 12", -1);
        known(checks, "thin 123", 7);
        known(checks, "thin -1", 5);
        known(checks, "thin 1;", 7);
        known(checks, "thin 1;;", 7);
        known(checks, "thin 1; thick 2", 7);
        known(checks, ";thin 1", 0);
        known(checks, "thin 1;thick 2", -1);
        known(checks, "THIN 1", 0);
        known(checks, "thin 1".concat(";wind 1".repeat(9)), -1);
        known(checks, "thin 1".concat(";wind 1".repeat(9)) + ";", 69);
        known(checks, "thin 1".concat(";wind 1".repeat(9)) + "x", 69);
        known(checks, "thin 1".concat(";wind 1".repeat(9)) + "1", -1);
        checks.begin("random texts");
        Random random = new Random(7);
        for (int i = 0; i < 6000; i++) {
            String told = HillTexts.any(random);
            compare(checks, i % 3 == 0 ? told : HillTexts.spoilt(random, told));
        }
        checks.end();
    }

    private static void known(Checks checks, String told, int fault) {
        compare(checks, told);
        checks.due("hill of '" + told + "'", Checks.hill(new SlateHalves(), told), fault < 0 ? 0 : -10 - fault);
    }

    private static void compare(Checks checks, String told) {
        int fault = Model.fault(told);
        checks.due("hill of '" + told + "'", Checks.hill(new SlateHalves(), told), fault < 0 ? 0 : -10 - fault);
    }
}

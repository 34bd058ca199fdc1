/** Counts the answers that are not as due, and says which. */
final class Checks {
    private int asked = 0;
    private int wrong = 0;
    private String part = "";

    void begin(String newPart) {
        part = newPart;
    }

    void due(String call, long got, long want) {
        asked++;
        if (got != want) {
            wrong++;
            System.out.println(part + ": " + call + " answered " + got + ", due is " + want);
        }
    }

    void holds(String what, boolean isSo) {
        asked++;
        if (!isSo) {
            wrong++;
            System.out.println(part + ": not so: " + what);
        }
    }

    /** Says how it went; ends the program with 1 if something was wrong. */
    void end() {
        System.out.println(asked + " looked at, " + wrong + " wrong");
        if (wrong != 0 || asked == 0) {
            System.exit(1);
        }
    }

    /** Feeds a text sign by sign. */
    static void feed(SlateHalves x, String text) {
        for (int i = 0; i < text.length(); i++) {
            x.feed(text.charAt(i));
        }
    }

    /** What hill() answers to a text. */
    static int hill(SlateHalves x, String text) {
        feed(x, text);
        return x.hill();
    }
}

import java.util.Random;

/** Texts of hills, right ones and spoilt ones. */
final class HillTexts {
    private static final String SIGNS = "dearchpintkw;0123456789()!|&<=>bkvtdyq ";

    private HillTexts() {
    }

    /** A text of a HILL, 100 bytes at most. */
    static String any(Random random) {
        for (int tries = 0; tries < 1000; tries++) {
            StringBuilder told = new StringBuilder();
            int clauses = 1 + random.nextInt(random.nextInt(4) == 0 ? 11 : 5);
            for (int i = 0; i < clauses; i++) {
                told.append(i == 0 ? "" : ";").append(clause(random));
            }
            if (told.length() <= 100) {
                return told.toString();
            }
        }
        return "wind 2";
    }

    private static String clause(Random random) {
        return switch (random.nextInt(8)) {
            case 0 -> "thin " + random.nextInt(random.nextInt(4) == 0 ? 30 : 5);
            case 1 -> "thick " + random.nextInt(random.nextInt(4) == 0 ? 70 : 9);
            case 2 -> "wind " + number(random, random.nextInt(4) == 0 ? 100 : 8);
            case 3, 4 -> "cheap " + number(random, 100) + " " + either(random, 0);
            default -> "dear " + number(random, 100) + " " + either(random, 0);
        };
    }

    private static String number(Random random, int most) {
        int n = random.nextInt(most);
        return random.nextInt(8) == 0 && n < 10 ? "0" + n : String.valueOf(n);
    }

    private static String either(Random random, int depth) {
        String e = both(random, depth);
        return random.nextInt(4) == 0 ? e + "|" + either(random, depth) : e;
    }

    private static String both(Random random, int depth) {
        String t = part(random, depth);
        return random.nextInt(4) == 0 ? t + "&" + both(random, depth) : t;
    }

    private static String part(Random random, int depth) {
        int pick = random.nextInt(10);
        if (depth < 5 && pick < 2) {
            return "!" + part(random, depth + 1);
        }
        if (depth < 5 && pick < 4) {
            return "(" + either(random, depth + 1) + ")";
        }
        char letter = "bkvtdy".charAt(random.nextInt(6));
        return "" + letter + "<=>".charAt(random.nextInt(3)) + number(random, random.nextInt(6) == 0 ? 100 : 10);
    }

    /** The text with one or two signs changed, left out, put in, or all behind one cut off. */
    static String spoilt(Random random, String told) {
        StringBuilder text = new StringBuilder(told);
        for (int n = 1 + random.nextInt(2); n > 0 && text.length() > 0; n--) {
            int at = random.nextInt(text.length());
            char sign = random.nextInt(10) == 0 ? (char) random.nextInt(128) : SIGNS.charAt(random.nextInt(SIGNS.length()));
            switch (random.nextInt(4)) {
                case 0 -> text.setCharAt(at, sign);
                case 1 -> text.deleteCharAt(at);
                case 2 -> text.insert(at, sign);
                default -> text.setLength(at);
            }
        }
        return text.length() > 100 ? text.substring(0, 100) : text.toString();
    }
}

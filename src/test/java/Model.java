import java.util.ArrayList;
import java.util.Arrays;
import java.util.HashSet;
import java.util.List;
import java.util.Set;

/**
 * The document once more, by other ways: every blow is tried, every order is written out, and the
 * hills are told by their grammar's rules. Slow and plain; RandomRunsTest holds the program to it.
 */
final class Model {
    static final long NO = Long.MIN_VALUE;
    static final List<String> KINDS = List.of("BLOCK", "FINE", "VEINED", "KNOTTY", "HARD", "WET", "TOLD");
    static final List<String> OVER = List.of("", "BLOCK", "BLOCK", "BLOCK", "FINE", "VEINED", "KNOTTY");

    static final class Slate {
        String kind;
        int v, thick, dry, split;
        int[] row = {0, 0, 0, 0};

        Slate copy() {
            Slate s = new Slate();
            s.kind = kind;
            s.v = v;
            s.thick = thick;
            s.dry = dry;
            s.split = split;
            s.row = row.clone();
            return s;
        }
    }

    static final class All {
        List<Slate> slates = new ArrayList<>();
        int earned, day;
        String hill = "";
        List<int[]> seen = new ArrayList<>(), week = new ArrayList<>(), book = new ArrayList<>();

        All copy() {
            All a = new All();
            for (Slate s : slates) {
                a.slates.add(s.copy());
            }
            a.earned = earned;
            a.day = day;
            a.hill = hill;
            a.seen = new ArrayList<>(seen);
            a.week = new ArrayList<>(week);
            a.book = new ArrayList<>(book);
            return a;
        }
    }

    All all = new All();
    All image = null;
    String text = "";
    int hills = 0;
    List<Integer> trace = new ArrayList<>();
    Object[] tapes = new Object[6];

    // ---- hills: what they say

    static List<String> clauses(String hill, String word) {
        List<String> found = new ArrayList<>();
        for (String clause : hill.split(";")) {
            if (clause.startsWith(word + " ")) {
                found.add(clause.substring(word.length() + 1));
            }
        }
        return found;
    }

    static int last(String hill, String word, int without) {
        List<String> found = clauses(hill, word);
        return found.isEmpty() ? without : Integer.parseInt(found.get(found.size() - 1));
    }

    static int thin(String hill) {
        int n = last(hill, "thin", 2);
        return n < 1 ? 1 : n;
    }

    static int most(String hill) {
        int n = last(hill, "thick", 5);
        return n < thin(hill) ? thin(hill) : n;
    }

    static int wind(String hill) {
        return last(hill, "wind", 1);
    }

    static int price(All a, int number) {
        int sum = 10;
        for (String dear : clauses(a.hill, "dear")) {
            String[] parts = dear.split(" ");
            if (holds(parts[1], a, number)) {
                sum += Integer.parseInt(parts[0]);
            }
        }
        for (String cheap : clauses(a.hill, "cheap")) {
            String[] parts = cheap.split(" ");
            if (holds(parts[1], a, number)) {
                sum -= Integer.parseInt(parts[0]);
            }
        }
        return sum < 0 ? 0 : sum;
    }

    /** The parts between the signs that stand in no bracket. */
    static List<String> split(String e, char sign) {
        List<String> parts = new ArrayList<>();
        int open = 0;
        int from = 0;
        for (int i = 0; i < e.length(); i++) {
            open += e.charAt(i) == '(' ? 1 : e.charAt(i) == ')' ? -1 : 0;
            if (open == 0 && e.charAt(i) == sign) {
                parts.add(e.substring(from, i));
                from = i + 1;
            }
        }
        parts.add(e.substring(from));
        return parts;
    }

    static boolean holds(String e, All a, int number) {
        List<String> either = split(e, '|');
        if (either.size() > 1) {
            return either.stream().anyMatch(t -> holds(t, a, number));
        }
        List<String> both = split(e, '&');
        if (both.size() > 1) {
            return both.stream().allMatch(f -> holds(f, a, number));
        }
        if (e.startsWith("!")) {
            return !holds(e.substring(1), a, number);
        }
        if (e.startsWith("(")) {
            return holds(e.substring(1, e.length() - 1), a, number);
        }
        Slate s = a.slates.get(number);
        int is = switch (e.charAt(0)) {
            case 'b' -> number;
            case 'k' -> KINDS.indexOf(s.kind);
            case 'v' -> s.v;
            case 't' -> s.thick / 10;
            case 'd' -> s.dry / 10;
            case 'y' -> a.day % 10;
            default -> throw new IllegalStateException(e);
        };
        int n = Integer.parseInt(e.substring(2));
        return switch (e.charAt(1)) {
            case '<' -> is < n;
            case '=' -> is == n;
            default -> is > n;
        };
    }

    // ---- hills: how they are told. A row of signs and of names still to come, as one string:
    // upper case names: C a clause and more of them (a number of clauses left behind it), E, T, F with
    // how many stand around, D a digit, N a number.

    static int fault(String told) {
        Set<List<String>> open = new HashSet<>();
        open.add(List.of("C9"));
        open = grown(open);
        for (int i = 0; i < told.length(); i++) {
            Set<List<String>> next = new HashSet<>();
            for (List<String> rest : open) {
                if (!rest.isEmpty() && rest.get(0).equals(String.valueOf(told.charAt(i)))) {
                    next.add(rest.subList(1, rest.size()));
                }
            }
            open = grown(next);
            if (open.isEmpty()) {
                return i;
            }
        }
        return open.contains(List.<String>of()) ? -1 : told.length();
    }

    static Set<List<String>> grown(Set<List<String>> open) {
        Set<List<String>> done = new HashSet<>();
        List<List<String>> todo = new ArrayList<>(open);
        while (!todo.isEmpty()) {
            List<String> rest = todo.remove(todo.size() - 1);
            List<List<String>> rules = rest.isEmpty() ? null : rules(rest.get(0));
            if (rules == null) {
                done.add(rest);
                continue;
            }
            for (List<String> rule : rules) {
                List<String> longer = new ArrayList<>(rule);
                longer.addAll(rest.subList(1, rest.size()));
                todo.add(longer);
            }
        }
        return done;
    }

    static List<String> signs(String signs, String... behind) {
        List<String> row = new ArrayList<>();
        for (char c : signs.toCharArray()) {
            row.add(String.valueOf(c));
        }
        row.addAll(Arrays.asList(behind));
        return row;
    }

    /** What may stand for a name; null: it is a sign itself. */
    static List<List<String>> rules(String name) {
        if (name.length() == 1 && !name.equals("N") && !name.equals("D") && !name.equals("L") && !name.equals("S")) {
            return null;
        }
        List<List<String>> rules = new ArrayList<>();
        int n = name.length() > 1 ? Integer.parseInt(name.substring(1)) : 0;
        switch (name.charAt(0)) {
            case 'C' -> {
                for (String word : List.of("dear ", "cheap ")) {
                    rules.add(signs(word, "N", " ", "E0", "M" + n));
                }
                for (String word : List.of("thin ", "thick ", "wind ")) {
                    rules.add(signs(word, "N", "M" + n));
                }
            }
            case 'M' -> {
                rules.add(List.of());
                if (n > 0) {
                    rules.add(List.of(";", "C" + (n - 1)));
                }
            }
            case 'N' -> {
                rules.add(List.of("D"));
                rules.add(List.of("D", "D"));
            }
            case 'D' -> {
                for (char c = '0'; c <= '9'; c++) {
                    rules.add(signs(String.valueOf(c)));
                }
            }
            case 'E' -> rules.add(List.of("T" + n, "O" + n));
            case 'O' -> {
                rules.add(List.of());
                rules.add(List.of("|", "E" + n));
            }
            case 'T' -> rules.add(List.of("F" + n, "A" + n));
            case 'A' -> {
                rules.add(List.of());
                rules.add(List.of("&", "T" + n));
            }
            case 'F' -> {
                rules.add(List.of("L", "S", "N"));
                if (n < 4) {
                    rules.add(List.of("!", "F" + (n + 1)));
                    rules.add(List.of("(", "E" + (n + 1), ")"));
                }
            }
            case 'L' -> {
                for (char c : "bkvtdy".toCharArray()) {
                    rules.add(signs(String.valueOf(c)));
                }
            }
            case 'S' -> {
                for (char c : "<=>".toCharArray()) {
                    rules.add(signs(String.valueOf(c)));
                }
            }
            default -> throw new IllegalStateException(name);
        }
        return rules;
    }

    // ---- blows

    static int grip(Slate s) {
        int grip = 3;
        if (s.kind.equals("FINE") || s.kind.equals("HARD")) {
            grip = grip + s.v / 3;
        }
        grip = grip - s.dry / 10;
        return grip < 0 ? 0 : grip;
    }

    static int dries(Slate s, String hill) {
        return s.kind.equals("WET") ? wind(hill) / 2 : wind(hill);
    }

    static boolean clean(Slate s, int day, int t, int x) {
        int apart = Math.abs(2 * x - t);
        boolean plain = apart <= grip(s);
        switch (s.kind) {
            case "BLOCK":
            case "FINE":
                return plain;
            case "VEINED":
            case "WET":
                return plain || x == s.v + 1;
            case "KNOTTY":
                return plain && x != s.v + 1;
            case "HARD":
                return plain && t >= 4;
            default:
                return Math.abs(2 * x - (t + s.row[day % 4])) <= grip(s) && x != s.v + 1;
        }
    }

    static int worth(All a, int number, int t) {
        int thin = thin(a.hill);
        int most = most(a.hill);
        if (t >= thin && t <= most) {
            return price(a, number);
        }
        if (t > most && t <= 2 * most) {
            return price(a, number) / 2;
        }
        return 0;
    }

    /** For pieces 0 .. thick: BEST, FEW, MANY, HALVES, BLOW of each, every blow tried. */
    static int[][] tables(All a, int number) {
        Slate s = a.slates.get(number);
        int price = price(a, number);
        int thin = thin(a.hill);
        int most = most(a.hill);
        int[][] rows = new int[5][s.thick + 1];
        for (int t = 1; t <= s.thick; t++) {
            boolean isSlate = t >= thin && t <= most;
            int worth = isSlate ? price : t > most && t <= 2 * most ? price / 2 : 0;
            int best = worth;
            int few = 0;
            int blow = 0;
            int many = isSlate ? 1 : 0;
            for (int x = 1; x < t; x++) {
                boolean isClean = clean(s, a.day, t, x);
                int greater = Math.max(x, t - x);
                int sum = isClean ? rows[0][x] + rows[0][t - x] : rows[0][greater];
                int blows = 1 + (isClean ? rows[1][x] + rows[1][t - x] : rows[1][greater]);
                int slates = isClean ? rows[2][x] + rows[2][t - x] : rows[2][greater];
                if (sum > best) {
                    best = sum;
                    few = blows;
                    blow = x;
                } else if (sum == best && blows < few) {
                    few = blows;
                }
                many = Math.max(many, slates);
            }
            rows[0][t] = best;
            rows[1][t] = few;
            rows[2][t] = many;
            int half = t / 2;
            rows[3][t] = t <= most ? worth
                    : clean(s, a.day, t, half) ? rows[3][half] + rows[3][t - half] : rows[3][t - half];
            rows[4][t] = blow;
        }
        return rows;
    }

    static int best(All a, int number) {
        int[] row = tables(a, number)[0];
        return row[row.length - 1];
    }

    static int bestOfAll(All a) {
        int sum = 0;
        for (int i = 0; i < a.slates.size(); i++) {
            sum += best(a, i);
        }
        return sum;
    }

    static void day(All a) {
        for (Slate s : a.slates) {
            if (s.thick > 0) {
                s.dry = Math.min(99, s.dry + dries(s, a.hill));
            }
        }
        a.day++;
    }

    All behind(int days) {
        All a = all.copy();
        for (int i = 0; i < days; i++) {
            day(a);
        }
        return a;
    }

    Slate slate(int block) {
        return block < 0 || block >= all.slates.size() ? null : all.slates.get(block);
    }

    // ---- the face

    int block(int kind, int v, int thick) {
        if (kind < 0 || kind > 6) {
            return -1;
        }
        if (v < 0 || v > 9 || thick < 1 || thick > 60) {
            return -2;
        }
        if (all.slates.size() == 6) {
            return -4;
        }
        Slate s = new Slate();
        s.kind = KINDS.get(kind);
        s.v = v;
        s.thick = thick;
        all.slates.add(s);
        return all.slates.size() - 1;
    }

    int of(int block, int what) {
        Slate s = slate(block);
        if (s == null || what < 0 || what > 13) {
            return -1;
        }
        int[][] rows = tables(all, block);
        return switch (what) {
            case 0 -> KINDS.indexOf(s.kind);
            case 1 -> s.v;
            case 2 -> s.thick;
            case 3 -> s.dry;
            case 4 -> s.split;
            case 5 -> price(all, block);
            case 6 -> grip(s);
            case 7 -> dries(s, all.hill);
            case 8 -> worth(all, block, s.thick);
            default -> rows[what - 9][s.thick];
        };
    }

    int dry(int block, int n) {
        Slate s = slate(block);
        if (s == null) {
            return -1;
        }
        if (n < 0 || n > 99) {
            return -2;
        }
        int was = s.dry;
        s.dry = n;
        return was;
    }

    int row(int block, int part, int n) {
        Slate s = slate(block);
        if (s == null || part < 0 || part > 3) {
            return -1;
        }
        if (n < 0 || n > 9) {
            return -2;
        }
        if (!s.kind.equals("TOLD")) {
            return -3;
        }
        int was = s.row[part];
        s.row[part] = n;
        return was;
    }

    int strike(int block, int x) {
        Slate s = slate(block);
        if (s == null) {
            return -1;
        }
        if (x < 1 || x >= s.thick) {
            return -2;
        }
        boolean isClean = clean(s, all.day, s.thick, x);
        if (isClean && all.slates.size() == 6) {
            return -4;
        }
        int rest = s.thick - x;
        s.split++;
        if (isClean) {
            Slate other = s.copy();
            other.split = 0;
            other.thick = rest;
            all.slates.add(other);
        }
        s.thick = isClean ? x : Math.max(x, rest);
        return isClean ? 1 : 0;
    }

    int clean(int block, int t, int x) {
        Slate s = slate(block);
        if (s == null) {
            return -1;
        }
        if (t < 2 || t > 60 || x < 1 || x >= t) {
            return -2;
        }
        return clean(s, all.day, t, x) ? 1 : 0;
    }

    int sell(int block) {
        Slate s = slate(block);
        if (s == null) {
            return -1;
        }
        if (s.thick == 0) {
            return -3;
        }
        int worth = worth(all, block, s.thick);
        all.earned += worth;
        s.thick = 0;
        return worth;
    }

    int feed(int sign) {
        if (sign < 0 || sign > 127) {
            return -2;
        }
        if (text.length() == 100) {
            return -4;
        }
        text += (char) sign;
        return text.length();
    }

    int hill() {
        if (hills == 6) {
            return -4;
        }
        String read = text;
        text = "";
        int fault = fault(read);
        if (fault >= 0) {
            return -10 - fault;
        }
        all.hill = read;
        return hills++;
    }

    int told(int what) {
        return switch (what) {
            case 0 -> all.day;
            case 1 -> thin(all.hill);
            case 2 -> most(all.hill);
            case 3 -> wind(all.hill);
            case 4 -> all.earned;
            case 5 -> bestOfAll(all);
            default -> -1;
        };
    }

    int pass(int n) {
        if (n < 0 || n > 60) {
            return -2;
        }
        if (all.day + n > 9999) {
            return -3;
        }
        all = behind(n);
        return all.day;
    }

    int on(int n, int what) {
        int most = all.slates.size();
        boolean isDry = what >= 10 && what < 10 + most;
        boolean isBest = what >= 20 && what < 20 + most;
        if (what != 0 && !isDry && !isBest) {
            return -1;
        }
        if (n < 0 || n > 60) {
            return -2;
        }
        All a = behind(n);
        return isDry ? a.slates.get(what - 10).dry : isBest ? best(a, what - 20) : bestOfAll(a);
    }

    int lasts(int q) {
        if (q < 0 || q > 99999) {
            return -2;
        }
        int found = -5;
        for (int n = 0; n <= 20; n++) {
            if (bestOfAll(behind(n)) >= q) {
                found = n;
            }
        }
        return found;
    }

    static void orders(List<Integer> left, List<Integer> placed, List<List<Integer>> found) {
        if (left.isEmpty()) {
            found.add(new ArrayList<>(placed));
        }
        for (Integer i : left) {
            List<Integer> rest = new ArrayList<>(left);
            rest.remove(i);
            placed.add(i);
            orders(rest, placed, found);
            placed.remove(placed.size() - 1);
        }
    }

    int order(int k) {
        if (k < -1 || k > 5) {
            return -1;
        }
        List<Integer> present = new ArrayList<>();
        for (int i = 0; i < all.slates.size(); i++) {
            if (all.slates.get(i).thick > 0) {
                present.add(i);
            }
        }
        int[][] worth = new int[6][6];
        for (int days = 0; days < present.size(); days++) {
            All a = behind(days);
            for (int i : present) {
                worth[i][days] = best(a, i);
            }
        }
        List<List<Integer>> orders = new ArrayList<>();
        orders(present, new ArrayList<>(), orders);
        List<Integer> chosen = null;
        int most = -1;
        for (List<Integer> one : orders) {
            int sum = 0;
            for (int days = 0; days < one.size(); days++) {
                sum += worth[one.get(days)][days];
            }
            if (sum > most) {
                most = sum;
                chosen = one;
            }
        }
        return k == -1 ? most : k < chosen.size() ? chosen.get(k) : -5;
    }

    int loses(int block) {
        return slate(block) == null ? -1001 : best(all, block) - best(behind(1), block);
    }

    int worst() {
        int found = -5;
        for (int i = 0; i < all.slates.size(); i++) {
            if (all.slates.get(i).thick > 0 && (found == -5 || loses(i) > loses(found))) {
                found = i;
            }
        }
        return found;
    }

    int see(int x, int t, boolean isClean) {
        if (x == -1) {
            all.seen = new ArrayList<>();
            return 0;
        }
        if (t < 2 || t > 60 || x < 1 || x > t - 1) {
            return -2;
        }
        if (all.seen.size() == 6) {
            return -4;
        }
        all.seen.add(new int[] {x, t, isClean ? 1 : 0});
        return all.seen.size();
    }

    private int fits(List<Slate> guesses, int what) {
        int many = 0;
        int least = -5;
        for (int i = 0; i < guesses.size(); i++) {
            Slate guess = guesses.get(i);
            if (all.seen.stream().allMatch(s -> clean(guess, all.day, s[1], s[0]) == (s[2] == 1))) {
                many++;
                least = least == -5 ? i : least;
            }
        }
        return what == 0 ? many : what == 1 ? least : -1;
    }

    int dryness(int block, int what) {
        if (slate(block) == null) {
            return -1;
        }
        List<Slate> guesses = new ArrayList<>();
        for (int d = 0; d < 100; d++) {
            Slate guess = slate(block).copy();
            guess.dry = d;
            guesses.add(guess);
        }
        return fits(guesses, what);
    }

    int can(int block, int what) {
        if (slate(block) == null) {
            return -1;
        }
        List<Slate> guesses = new ArrayList<>();
        for (int v = 0; v < 10; v++) {
            Slate guess = slate(block).copy();
            guess.v = v;
            guesses.add(guess);
        }
        return fits(guesses, what);
    }

    static long part(int above, int below, int part) {
        if (below == 0 || part < 0 || part > 1) {
            return NO;
        }
        for (int d = below; d > 1; d--) {
            if (above % d == 0 && below % d == 0) {
                return part == 0 ? above / d : below / d;
            }
        }
        return part == 0 ? above : below;
    }

    long odds(int block, int part) {
        Slate s = slate(block);
        if (s == null || s.thick < 2) {
            return NO;
        }
        int good = 0;
        for (int x = 1; x < s.thick; x++) {
            good += clean(s, all.day, s.thick, x) ? 1 : 0;
        }
        return part(good, s.thick - 1, part);
    }

    long mean(int part) {
        int sum = all.slates.stream().mapToInt(s -> s.thick).sum();
        int many = (int) all.slates.stream().filter(s -> s.thick > 0).count();
        return part(sum, many, part);
    }

    int week(int what, int block) {
        if (what == -1) {
            all.week = new ArrayList<>();
            return 0;
        }
        if (what < 0 || what > 2 || what > 0 && slate(block) == null) {
            return -1;
        }
        if (all.week.size() == 10) {
            return -4;
        }
        all.week.add(new int[] {what, block});
        return all.week.size();
    }

    int ends(int what) {
        if (what != 0 && what != 1) {
            return -1;
        }
        All a = all.copy();
        int more = 0;
        for (int[] goes : all.week) {
            if (goes[0] == 0) {
                day(a);
            } else {
                Slate s = a.slates.get(goes[1]);
                more += goes[0] == 1 ? worth(a, goes[1], s.thick) : best(a, goes[1]);
                s.thick = 0;
            }
        }
        return what == 0 ? more : (int) a.slates.stream().filter(s -> s.thick > 0).count();
    }

    int book(int block, int thick) {
        if (block == -1) {
            all.book = new ArrayList<>();
            return 0;
        }
        if (slate(block) == null) {
            return -1;
        }
        if (thick < 0 || thick > 60) {
            return -2;
        }
        if (all.book.size() == 8) {
            return -4;
        }
        all.book.add(new int[] {block, thick});
        return all.book.size();
    }

    int looked() {
        for (int i = 0; i < all.book.size(); i++) {
            if (slate(all.book.get(i)[0]).thick != all.book.get(i)[1]) {
                return i;
            }
        }
        return -5;
    }

    int judge(int tape, int i) {
        if (tape < 0 || tape > 5) {
            return -1;
        }
        Object row = tapes[tape];
        if (row != null && !(row instanceof byte[])) {
            return -12;
        }
        byte[] bytes = row == null || i < 0 || i > ((byte[]) row).length ? new byte[0]
                : Arrays.copyOfRange((byte[]) row, i, ((byte[]) row).length);
        for (int k = 0; k < all.slates.size(); k++) {
            if (k == bytes.length) {
                return 100 + k;
            }
            if (bytes[k] != all.slates.get(k).thick) {
                return k;
            }
        }
        return -5;
    }

    int image() {
        image = all.copy();
        return image.slates.size();
    }

    int undo() {
        if (image == null) {
            return -3;
        }
        all = image.copy();
        return all.slates.size();
    }

    // ---- acts: each body by its number; null: the KIND has none

    private int run(String kind, String act, Slate s, int i, int x) {
        String own = s.kind;
        String above = OVER.get(KINDS.indexOf(kind));
        switch (kind + " " + act) {
            case "BLOCK rings":
                trace.add(10);
                return x + i;
            case "BLOCK splits":
                trace.add(11);
                return run(own, "rings", s, i, x) - s.v;
            case "BLOCK tells":
                trace.add(12);
                return run(own, "splits", s, i, x) * 2;
            case "FINE splits":
                trace.add(20);
                return run(above, "splits", s, i, x) ^ 6;
            case "VEINED rings":
                trace.add(30);
                return run(above, "rings", s, i, x * 3);
            case "KNOTTY tells": {
                trace.add(40);
                int told = run(above, "tells", s, i, x);
                return told + run(own, "splits", s, i, 1);
            }
            case "HARD rings":
                trace.add(50);
                return -run(above, "rings", s, i, x);
            case "HARD splits":
                trace.add(51);
                return run(above, "splits", s, i, x + 1);
            case "WET tells":
                trace.add(60);
                return run(above, "tells", s, i, x - i);
            case "TOLD splits": {
                trace.add(70);
                int split = run(above, "splits", s, i, x);
                return split + run(above, "rings", s, i, 2);
            }
            case "TOLD rings":
                trace.add(71);
                return run(above, "rings", s, i, x) ^ s.v;
            default:
                return run(above, act, s, i, x);
        }
    }

    int act(int block, int act, int x) {
        trace.clear();
        if (slate(block) == null || act < 0 || act > 2) {
            return 0;
        }
        return run(slate(block).kind, List.of("rings", "splits", "tells").get(act), slate(block), block, x);
    }

    int trace(int i) {
        return i < 0 || i >= trace.size() || i >= 20 ? -1 : trace.get(i);
    }

    int taken(int block, int k) {
        if (k < 0 || k > 6) {
            return -2;
        }
        if (slate(block) == null) {
            return -11;
        }
        for (String kind = slate(block).kind; !kind.isEmpty(); kind = OVER.get(KINDS.indexOf(kind))) {
            if (kind.equals(KINDS.get(k))) {
                return KINDS.indexOf(slate(block).kind);
            }
        }
        return -12;
    }

    int count(int what) {
        return switch (what) {
            case 0 -> all.slates.size();
            case 1 -> hills;
            case 2 -> all.seen.size();
            case 3 -> all.week.size();
            case 4 -> all.book.size();
            case 5 -> text.length();
            case 6 -> trace.size();
            default -> -2;
        };
    }

    // ---- tapes, as rows of Java's own sorts

    int tape(int tape, int sort, int n) {
        if (tape < 0 || tape > 5) {
            return -1;
        }
        if (sort < -1 || sort > 4 || sort >= 0 && n > 60) {
            return -2;
        }
        if (sort >= 0 && n < 0) {
            return -14;
        }
        tapes[tape] = switch (sort) {
            case 0 -> new byte[n];
            case 1 -> new short[n];
            case 2 -> new int[n];
            case 3 -> new long[n];
            case 4 -> new boolean[n];
            default -> null;
        };
        return 1;
    }

    int item(int tape, int i, long v) {
        if (tape < 0 || tape > 5) {
            return -1;
        }
        if (tapes[tape] == null) {
            return -11;
        }
        if (i < 0 || i >= java.lang.reflect.Array.getLength(tapes[tape])) {
            return -13;
        }
        if (tapes[tape] instanceof byte[] row) {
            row[i] = (byte) v;
        } else if (tapes[tape] instanceof short[] row) {
            row[i] = (short) v;
        } else if (tapes[tape] instanceof int[] row) {
            row[i] = (int) v;
        } else if (tapes[tape] instanceof long[] row) {
            row[i] = v;
        } else if (tapes[tape] instanceof boolean[] row) {
            row[i] = v != 0;
        }
        return 1;
    }

    long read(int tape, int i) {
        if (tape < 0 || tape > 5 || tapes[tape] == null || i < 0
                || i >= java.lang.reflect.Array.getLength(tapes[tape])) {
            return NO;
        }
        Object item = java.lang.reflect.Array.get(tapes[tape], i);
        return item instanceof Boolean is ? (is ? 1 : 0) : ((Number) item).longValue();
    }

    int shift(int tape, int i, int other, int j, int n) {
        if (tape < 0 || tape > 5 || other < 0 || other > 5) {
            return -1;
        }
        if (tapes[tape] == null || tapes[other] == null) {
            return -11;
        }
        if (tapes[tape].getClass() != tapes[other].getClass()) {
            return -12;
        }
        if (n < 0 || i < 0 || j < 0 || (long) i + n > java.lang.reflect.Array.getLength(tapes[tape])
                || (long) j + n > java.lang.reflect.Array.getLength(tapes[other])) {
            return -13;
        }
        System.arraycopy(tapes[tape], i, tapes[other], j, n);
        return n;
    }
}

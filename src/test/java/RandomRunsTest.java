import java.util.ArrayList;
import java.util.List;
import java.util.Random;

/** Long runs of calls, always the same ones, on the program and on the Model: alike in every answer. */
public final class RandomRunsTest {
    private static final int RUNS = 400;
    private static final int MOST_CALLS = 512;
    private static final int[] EXTREMES = {
        Integer.MIN_VALUE, Integer.MIN_VALUE + 1, Integer.MIN_VALUE + 20, -1000000, -129, -61, -5, -4, -3, -2, -1, 0, 1, 2, 3, 4, 5,
        6, 7, 8, 9, 10, 11, 12, 13, 14, 15, 16, 19, 20, 25, 26, 59, 60, 61, 99, 100, 101, 127, 128, 999, 99999,
        100000, 1000000, Integer.MAX_VALUE - 1, Integer.MAX_VALUE};

    private final Random random;
    private final SlateHalves program = new SlateHalves();
    private final Model model = new Model();
    private final List<String> log = new ArrayList<>();
    private final boolean isWild;
    private int calls = 0;

    private RandomRunsTest(long seed) {
        random = new Random(seed);
        isWild = seed % 5 == 4;
    }

    public static void main(String[] args) {
        int wrong = 0;
        for (int seed = 0; seed < RUNS && wrong < 5; seed++) {
            RandomRunsTest run = new RandomRunsTest(seed);
            try {
                run.go(seed);
            } catch (RuntimeException thrown) {
                wrong++;
                List<String> log = run.log;
                System.out.println("run " + seed + ": " + thrown.getMessage());
                System.out.println("  behind " + log.subList(Math.max(0, log.size() - 40), log.size()));
                if (!(thrown instanceof IllegalStateException)) {
                    thrown.printStackTrace(System.out);
                }
            }
        }
        System.out.println(wrong == 0 ? RUNS + " random runs are alike" : wrong + " random runs are not alike");
        if (wrong != 0) {
            System.exit(1);
        }
    }

    private void due(String call, long got, long want) {
        calls++;
        log.add(call + "=" + want);
        if (got != want) {
            throw new IllegalStateException(call + " answered " + got + ", due is " + want);
        }
    }

    /** A number 0 .. most; now and then one that is far off, or just beyond. */
    private int any(int most) {
        int odd = isWild ? 3 : 25;
        if (random.nextInt(odd) == 0) {
            return random.nextBoolean() ? EXTREMES[random.nextInt(EXTREMES.length)] : random.nextInt(most + 4) - 2;
        }
        return random.nextInt(most + 1);
    }

    private int anyBlock() {
        int there = model.all.slates.size();
        return there == 0 || random.nextInt(15) == 0 ? any(5) : any(there - 1);
    }

    private void go(long seed) {
        if (seed % 3 == 0) {
            hill();
        }
        while (calls < MOST_CALLS - 110) {
            int pick = random.nextInt(100);
            if (pick < 22) {
                make(random.nextInt(9));
            } else if (pick < 26) {
                hill();
            } else if (pick < 50) {
                ask(random.nextInt(12));
            } else if (pick < 72) {
                tell(random.nextInt(8));
            } else if (pick < 86) {
                tapes(random.nextInt(5));
            } else if (pick < 96) {
                acts(random.nextInt(4));
            } else {
                images();
            }
        }
    }

    private void make(int pick) {
        int a = anyBlock();
        switch (pick) {
            case 0, 1, 2 -> {
                int kind = any(6);
                int v = any(9);
                int thick = random.nextInt(3) == 0 ? any(60) : any(20);
                due("block(" + kind + "," + v + "," + thick + ")", program.block(kind, v, thick), model.block(kind, v, thick));
            }
            case 3 -> {
                int n = any(99);
                due("dry(" + a + "," + n + ")", program.dry(a, n), model.dry(a, n));
            }
            case 4, 5 -> {
                int part = any(3);
                int n = any(9);
                due("row(" + a + "," + part + "," + n + ")", program.row(a, part, n), model.row(a, part, n));
            }
            case 6 -> {
                int thick = model.slate(a) == null ? 60 : Math.max(1, model.slate(a).thick);
                int x = random.nextBoolean() ? thick / 2 : any(thick);
                due("strike(" + a + "," + x + ")", program.strike(a, x), model.strike(a, x));
            }
            case 7 -> {
                if (random.nextInt(3) == 0) {
                    due("sell(" + a + ")", program.sell(a), model.sell(a));
                }
            }
            default -> {
                int n = random.nextInt(3) == 0 ? any(60) : any(4);
                due("pass(" + n + ")", program.pass(n), model.pass(n));
            }
        }
    }

    private void ask(int pick) {
        int a = anyBlock();
        switch (pick) {
            case 0, 1, 2, 3 -> {
                int what = any(13);
                due("of(" + a + "," + what + ")", program.of(a, what), model.of(a, what));
            }
            case 4 -> {
                int t = any(60);
                int x = random.nextBoolean() ? t / 2 : any(Math.max(1, Math.min(60, Math.abs(t % 61))));
                due("clean(" + a + "," + t + "," + x + ")", program.clean(a, t, x), model.clean(a, t, x));
            }
            case 5 -> {
                int what = any(6);
                due("told(" + what + ")", program.told(what), model.told(what));
            }
            case 6 -> {
                int n = any(60);
                int what = random.nextInt(3) == 0 ? 0 : random.nextInt(10) == 0 ? any(27) : random.nextBoolean() ? 10 + any(5) : 20 + any(5);
                due("on(" + n + "," + what + ")", program.on(n, what), model.on(n, what));
            }
            case 7 -> {
                int q = random.nextInt(4) == 0 ? any(99999) : random.nextInt(Math.max(1, Model.bestOfAll(model.all) + 50));
                due("lasts(" + q + ")", program.lasts(q), model.lasts(q));
            }
            case 8 -> {
                int k = any(6) - 1;
                due("order(" + k + ")", program.order(k), model.order(k));
            }
            case 9 -> {
                due("loses(" + a + ")", program.loses(a), model.loses(a));
                due("worst()", program.worst(), model.worst());
            }
            case 10 -> {
                int part = any(1);
                due("odds(" + a + "," + part + ")", program.odds(a, part), model.odds(a, part));
            }
            default -> {
                int part = any(1);
                due("mean(" + part + ")", program.mean(part), model.mean(part));
            }
        }
    }

    private void tell(int pick) {
        int a = anyBlock();
        switch (pick) {
            case 0, 1 -> {
                int t = 2 + any(20);
                int x = random.nextInt(20) == 0 ? -1 : random.nextBoolean() ? t / 2 + random.nextInt(3) : any(Math.abs(t % 61));
                boolean isClean = random.nextBoolean();
                if (random.nextBoolean() && model.clean(a, t, x) >= 0) {
                    isClean = model.clean(a, t, x) == 1;
                }
                due("see(" + x + "," + t + "," + isClean + ")", program.see(x, t, isClean), model.see(x, t, isClean));
            }
            case 2 -> {
                int what = any(1);
                due("dryness(" + a + "," + what + ")", program.dryness(a, what), model.dryness(a, what));
            }
            case 3 -> {
                int what = any(1);
                due("can(" + a + "," + what + ")", program.can(a, what), model.can(a, what));
            }
            case 4 -> {
                int what = random.nextInt(20) == 0 ? -1 : any(2);
                due("week(" + what + "," + a + ")", program.week(what, a), model.week(what, a));
            }
            case 5 -> {
                int what = any(1);
                due("ends(" + what + ")", program.ends(what), model.ends(what));
            }
            case 6 -> {
                int b = random.nextInt(15) == 0 ? -1 : a;
                int thick = model.slate(b) != null && random.nextInt(5) > 0 ? model.slate(b).thick : any(60);
                due("book(" + b + "," + thick + ")", program.book(b, thick), model.book(b, thick));
            }
            default -> due("looked()", program.looked(), model.looked());
        }
    }

    private void tapes(int pick) {
        int a = any(5);
        int b = any(5);
        switch (pick) {
            case 0 -> {
                int sort = random.nextInt(8) == 0 ? -1 : random.nextBoolean() ? 0 : any(4);
                int n = random.nextBoolean() ? any(12) : any(60);
                due("tape(" + a + "," + sort + "," + n + ")", program.tape(a, sort, n), model.tape(a, sort, n));
            }
            case 1 -> {
                int i = any(12);
                long v = random.nextInt(4) == 0 ? random.nextLong() : random.nextBoolean() ? any(60) : random.nextInt();
                due("item(" + a + "," + i + "," + v + ")", program.item(a, i, v), model.item(a, i, v));
            }
            case 2 -> {
                int i = any(12);
                due("read(" + a + "," + i + ")", program.read(a, i), model.read(a, i));
            }
            case 3 -> {
                int i = any(8);
                int j = any(8);
                int n = any(8);
                int other = random.nextBoolean() ? a : b;
                due("shift(" + a + "," + i + "," + other + "," + j + "," + n + ")",
                        program.shift(a, i, other, j, n), model.shift(a, i, other, j, n));
            }
            default -> {
                int i = any(6);
                if (random.nextBoolean() && a >= 0 && a <= 5) {
                    for (int k = 0; k < model.all.slates.size(); k++) {
                        if (random.nextInt(12) > 0) {
                            long thick = model.all.slates.get(k).thick;
                            int at = i + k;
                            due("item(" + a + "," + at + "," + thick + ")", program.item(a, at, thick), model.item(a, at, thick));
                        }
                    }
                }
                due("judge(" + a + "," + i + ")", program.judge(a, i), model.judge(a, i));
            }
        }
    }

    private void acts(int pick) {
        int a = anyBlock();
        if (pick < 2) {
            int act = any(2);
            int x = random.nextBoolean() ? random.nextInt(20) - 10 : random.nextInt();
            due("act(" + a + "," + act + "," + x + ")", program.act(a, act, x), model.act(a, act, x));
            for (int i = 0; i < 14; i++) {
                due("trace(" + i + ")", program.trace(i), model.trace(i));
            }
        } else if (pick == 2) {
            int k = any(6);
            due("taken(" + a + "," + k + ")", program.taken(a, k), model.taken(a, k));
            int i = any(14);
            due("trace(" + i + ")", program.trace(i), model.trace(i));
        } else {
            int what = any(6);
            due("count(" + what + ")", program.count(what), model.count(what));
        }
    }

    private void images() {
        if (random.nextInt(3) == 0) {
            due("undo()", program.undo(), model.undo());
        } else {
            due("image()", program.image(), model.image());
        }
    }

    private void hill() {
        String told = HillTexts.any(random);
        if (random.nextInt(3) == 0) {
            told = HillTexts.spoilt(random, told);
        }
        for (int i = 0; i < told.length() && calls < MOST_CALLS - 5; i++) {
            due("feed(" + told.charAt(i) + ")", program.feed(told.charAt(i)), model.feed(told.charAt(i)));
        }
        int sign = EXTREMES[random.nextInt(EXTREMES.length)];
        if (isWild) {
            due("feed(" + sign + ")", program.feed(sign), model.feed(sign));
        }
        due("hill()", program.hill(), model.hill());
        due("told(1)", program.told(1), model.told(1));
        due("told(2)", program.told(2), model.told(2));
        due("told(3)", program.told(3), model.told(3));
    }
}

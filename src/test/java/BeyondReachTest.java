import java.lang.reflect.Field;
import java.lang.reflect.Method;

/**
 * Edges that the document names and that no 512 calls reach: SPLIT 9999, EARNED 999999, a 21st body of one
 * act. The test sets the fields by itself; if they bear other names some day, the names here change, too.
 */
public final class BeyondReachTest {
    private static final Checks checks = new Checks();

    public static void main(String[] args) throws ReflectiveOperationException {
        splitMost();
        earnedMost();
        earnedNotHeld();
        traceKept();
        dayBeyond();
        checks.end();
    }

    private static Field field(Object holder, String name) throws ReflectiveOperationException {
        Field field = holder.getClass().getDeclaredField(name);
        field.setAccessible(true);
        return field;
    }

    private static Object part(Object holder, String name) throws ReflectiveOperationException {
        return field(holder, name).get(holder);
    }

    private static Object yard(SlateHalves x) throws ReflectiveOperationException {
        return part(part(x, "now"), "yard");
    }

    private static void setSplit(SlateHalves x, int block, int n) throws ReflectiveOperationException {
        Object slate = ((Object[]) part(yard(x), "blocks"))[block];
        field(slate, "split").setInt(slate, n);
    }

    private static void setEarned(SlateHalves x, int n) throws ReflectiveOperationException {
        field(yard(x), "earned").setInt(yard(x), n);
    }

    private static void splitMost() throws ReflectiveOperationException {
        checks.begin("6, 'SPLIT (.. 0 .. 9999 ..)', 'STATE: SPLIT is 9999'");
        SlateHalves x = Given.blocks(5, 20);
        setSplit(x, 0, 9998);
        checks.due("9998: strike(0, 1)", x.strike(0, 1), 0);
        checks.due("of(0, 4)", x.of(0, 4), 9999);
        checks.due("9999: strike(0, 1)", x.strike(0, 1), -3);
        checks.due("9999: strike(0, 9), CLEAN", x.strike(0, 9), -3);
        checks.due("9999: strike(0, 0), BAD is named first", x.strike(0, 0), -2);
        checks.due("9999: strike(0, 19), BAD is named first", x.strike(0, 19), -2);
        checks.due("of(0, 2)", x.of(0, 2), 19);
        checks.due("of(0, 4)", x.of(0, 4), 9999);
        checks.due("count(0)", x.count(0), 5);
        setSplit(x, 1, 9998);
        checks.due("9998: strike(1, 10), CLEAN", x.strike(1, 10), 1);
        checks.due("of(1, 4)", x.of(1, 4), 9999);
        checks.due("of(5, 4), the new one", x.of(5, 4), 0);
        setSplit(x, 2, 9999);
        checks.due("six, and 9999: strike(2, 10), STATE is named ahead of FULL", x.strike(2, 10), -3);
        setSplit(x, 2, 9998);
        checks.due("six, and 9998: strike(2, 10)", x.strike(2, 10), -4);
        checks.due("of(2, 4)", x.of(2, 4), 9998);
    }

    private static void earnedMost() throws ReflectiveOperationException {
        checks.begin("8, 'EARNED is WORTH of it more (999999 at most)'");
        int[] before = {999988, 999989, 999990, 999998, 999999};
        for (int earned : before) {
            SlateHalves x = Given.blocks(2, 5);
            setEarned(x, earned);
            checks.due(earned + ": sell(0), all of its WORTH", x.sell(0), 10);
            checks.due(earned + ": told(4)", x.told(4), Math.min(999999, earned + 10));
            checks.due(earned + ": of(0, 2)", x.of(0, 2), 0);
            checks.due(earned + ": sell(0), gone", x.sell(0), -3);
            x.sell(1);
            checks.due(earned + ": told(4), behind two", x.told(4), 999999);
        }
        SlateHalves image = Given.blocks(2, 5);
        setEarned(image, 999995);
        image.image();
        image.sell(0);
        image.undo();
        checks.due("told(4), undone", image.told(4), 999995);
    }

    private static void earnedNotHeld() throws ReflectiveOperationException {
        checks.begin("24, 'how much more is EARNED (not held)'");
        SlateHalves x = Given.blocks(2, 5);
        setEarned(x, 999995);
        x.week(1, 0);
        x.week(2, 1);
        checks.due("ends(0)", x.ends(0), 30);
        checks.due("told(4)", x.told(4), 999995);
    }

    private static void traceKept() throws ReflectiveOperationException {
        checks.begin("31, 33, 'the first 20 are kept', '(all, kept or not)'");
        SlateHalves x = Given.block(6, 0, 5);
        x.act(0, 2, 1);
        Object acts = part(x, "acts");
        Method begin = acts.getClass().getDeclaredMethod("begin", int.class);
        begin.setAccessible(true);
        for (int ran = 13; ran <= 25; ran++) {
            begin.invoke(acts, 100 + ran);
            checks.due(ran + " ran: count(6)", x.count(6), ran);
            checks.due(ran + " ran: trace, the last", x.trace(ran - 1), ran <= 20 ? 100 + ran : -1);
            checks.due(ran + " ran: trace, behind it", x.trace(ran), -1);
        }
        checks.due("trace(0)", x.trace(0), 40);
        checks.due("trace(18)", x.trace(18), 119);
        checks.due("trace(19), the 20th", x.trace(19), 120);
        checks.due("trace(20)", x.trace(20), -1);
        checks.due("trace(24)", x.trace(24), -1);
        x.act(0, 0, 1);
        checks.due("the next act: count(6)", x.count(6), 2);
        checks.due("the next act: trace(2)", x.trace(2), -1);
    }

    private static void dayBeyond() throws ReflectiveOperationException {
        checks.begin("12, 'it would be above 9999', from each of the last DAYS");
        for (int n = 0; n <= 60; n++) {
            SlateHalves x = new SlateHalves();
            field(yard(x), "day").setInt(yard(x), 9999 - n);
            if (n < 60) {
                checks.due("one too many: pass(" + (n + 1) + ")", x.pass(n + 1), -3);
            }
            checks.due("told(0)", x.told(0), 9999 - n);
            checks.due("pass(" + n + ")", x.pass(n), 9999);
        }
    }
}

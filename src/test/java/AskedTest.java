import java.util.ArrayList;
import java.util.List;

/** "What is asked changes nothing": each call that only asks, on an object of its own, and what is seen behind it. */
public final class AskedTest {
    private static final Checks checks = new Checks();
    private static List<String> before;

    private interface Call {
        long on(SlateHalves x);
    }

    public static void main(String[] args) {
        before = Sight.of(Given.some());
        blocks();
        allTogether();
        tapes();
        twice();
        whatIsSeen();
        checks.end();
    }

    private static void asked(String name, Call call) {
        SlateHalves x = Given.some();
        long first = call.on(x);
        checks.due(name + " asked again", call.on(x), first);
        List<String> behind = Sight.of(x);
        List<String> more = new ArrayList<>(behind);
        more.removeAll(before);
        checks.holds(name + " leaves all as it was, but then " + more, behind.equals(before));
    }

    private static void blocks() {
        checks.begin("asked of each BLOCK");
        for (int b = 0; b < 4; b++) {
            int block = b;
            for (int what = 0; what <= 13; what++) {
                int asked = what;
                asked("of(" + b + ", " + what + ")", x -> x.of(block, asked));
            }
            for (int n : new int[] {0, 1, 60}) {
                asked("on(" + n + ", 1" + b + ")", x -> x.on(n, 10 + block));
                asked("on(" + n + ", 2" + b + ")", x -> x.on(n, 20 + block));
            }
            asked("clean(" + b + ", 2, 1)", x -> x.clean(block, 2, 1));
            asked("clean(" + b + ", 60, 59)", x -> x.clean(block, 60, 59));
            asked("loses(" + b + ")", x -> x.loses(block));
            for (int part = 0; part <= 1; part++) {
                int asked = part;
                asked("dryness(" + b + ", " + part + ")", x -> x.dryness(block, asked));
                asked("can(" + b + ", " + part + ")", x -> x.can(block, asked));
                asked("odds(" + b + ", " + part + ")", x -> x.odds(block, asked));
            }
            for (int k = 0; k <= 6; k++) {
                int kind = k;
                asked("taken(" + b + ", " + k + ")", x -> x.taken(block, kind));
            }
        }
    }

    private static void allTogether() {
        checks.begin("asked of all");
        for (int what = 0; what <= 6; what++) {
            int asked = what;
            asked("told(" + what + ")", x -> x.told(asked));
            asked("count(" + what + ")", x -> x.count(asked));
            asked("order(" + (what - 1) + ")", x -> x.order(asked - 1));
        }
        asked("on(60, 0)", x -> x.on(60, 0));
        for (int q : new int[] {0, 100, 99999}) {
            asked("lasts(" + q + ")", x -> x.lasts(q));
        }
        asked("worst()", x -> x.worst());
        for (int part = 0; part <= 1; part++) {
            int asked = part;
            asked("mean(" + part + ")", x -> x.mean(asked));
            asked("ends(" + part + ")", x -> x.ends(asked));
        }
        asked("looked()", x -> x.looked());
    }

    private static void tapes() {
        checks.begin("asked of TAPES and THE TRACE");
        for (int i = -1; i <= 4; i++) {
            int place = i;
            asked("judge(0, " + i + ")", x -> x.judge(0, place));
            asked("judge(5, " + i + ")", x -> x.judge(5, place));
            asked("read(0, " + i + ")", x -> x.read(0, place));
            asked("trace(" + i + ")", x -> x.trace(place));
        }
        asked("trace(11)", x -> x.trace(11));
    }

    /** Two objects do not know of one another. */
    private static void twice() {
        checks.begin("another object");
        SlateHalves other = Given.full();
        SlateHalves x = Given.some();
        other.strike(0, 1);
        other.undo();
        checks.holds("one sees nothing of the other", Sight.of(x).equals(before));
    }

    /** Were the Sight blind, the tests that lean on it would hold of anything: each change has to show. */
    private static void whatIsSeen() {
        checks.begin("the Sight");
        shows("block", x -> x.block(0, 0, 1));
        shows("dry", x -> x.dry(2, 1));
        for (int part = 0; part < 4; part++) {
            int asked = part;
            shows("row", x -> x.row(0, asked, 1));
        }
        shows("strike", x -> x.strike(3, 40));
        shows("sell", x -> x.sell(3));
        shows("feed", x -> x.feed('0'));
        shows("hill", x -> x.hill());
        shows("pass", x -> x.pass(1));
        shows("see", x -> x.see(1, 2, true));
        shows("see none", x -> x.see(-1, 2, true));
        shows("week", x -> x.week(0, 0));
        shows("week none", x -> x.week(-1, 0));
        shows("book", x -> x.book(3, 41));
        shows("book none", x -> x.book(-1, 0));
        shows("image", x -> x.image());
        shows("undo", x -> x.undo());
        shows("act", x -> x.act(0, 1, 3));
        shows("no act", x -> x.act(0, 3, 3));
        for (int tape = 0; tape < 6; tape++) {
            int asked = tape;
            shows("tape", x -> x.tape(asked, 2, 4));
        }
        for (int tape : new int[] {0, 1, 3}) {
            shows("item", x -> x.item(tape, 1, 2));
        }
        shows("item", x -> x.item(4, 1, 0));
        shows("shift", x -> x.shift(0, 0, 0, 1, 2));
    }

    private static void shows(String name, Call call) {
        SlateHalves x = Given.some();
        call.on(x);
        checks.holds(name + " shows", !Sight.of(x).equals(before));
    }
}

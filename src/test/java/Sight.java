import java.util.ArrayList;
import java.util.List;

/**
 * All that can be seen of an object, as a list of calls and their answers: two objects that give the same
 * list are as good as alike. What can only be seen by changing it (the ROWS, THE TEXT, the sorts of TAPES,
 * THE IMAGE) comes last, so the object is of no use behind that.
 */
final class Sight {
    private final SlateHalves x;
    private final List<String> answers = new ArrayList<>();

    private Sight(SlateHalves x) {
        this.x = x;
    }

    static List<String> of(SlateHalves x) {
        Sight sight = new Sight(x);
        int blocks = x.count(0);
        sight.numbers();
        sight.tapes();
        for (int b = 0; b < blocks; b++) {
            sight.block(b);
        }
        sight.together();
        sight.sorts();
        sight.rows(blocks);
        sight.image();
        sight.text();
        return sight.answers;
    }

    private void saw(String call, long answer) {
        answers.add(call + "=" + answer);
    }

    private void numbers() {
        for (int what = 0; what <= 6; what++) {
            saw("count(" + what + ")", x.count(what));
        }
        for (int what = 0; what <= 5; what++) {
            saw("told(" + what + ")", x.told(what));
        }
        for (int i = 0; i < 21 && x.trace(i) >= 0; i++) {
            saw("trace(" + i + ")", x.trace(i));
        }
    }

    private void tapes() {
        for (int tape = 0; tape < 6; tape++) {
            saw("item(" + tape + ", -1, 0)", x.item(tape, -1, 0));
            saw("judge(" + tape + ", 0)", x.judge(tape, 0));
            for (int i = 0; i < 6; i++) {
                long item = x.read(tape, i);
                saw("read(" + tape + ", " + i + ")", item);
                if (item == SlateHalves.NO) {
                    break;
                }
            }
        }
    }

    private void block(int b) {
        for (int what = 0; what <= 13; what++) {
            saw("of(" + b + ", " + what + ")", x.of(b, what));
        }
        saw("on(7, 1" + b + ")", x.on(7, 10 + b));
        saw("on(7, 2" + b + ")", x.on(7, 20 + b));
        saw("loses(" + b + ")", x.loses(b));
        for (int part = 0; part <= 1; part++) {
            saw("dryness(" + b + ", " + part + ")", x.dryness(b, part));
            saw("can(" + b + ", " + part + ")", x.can(b, part));
            saw("odds(" + b + ", " + part + ")", x.odds(b, part));
        }
    }

    private void together() {
        for (int k = -1; k <= 5; k++) {
            saw("order(" + k + ")", x.order(k));
        }
        saw("on(7, 0)", x.on(7, 0));
        saw("lasts(99)", x.lasts(99));
        saw("worst()", x.worst());
        for (int part = 0; part <= 1; part++) {
            saw("mean(" + part + ")", x.mean(part));
            saw("ends(" + part + ")", x.ends(part));
        }
        saw("looked()", x.looked());
    }

    private void sorts() {
        for (int tape = 0; tape < 6; tape++) {
            if (x.item(tape, 0, 0x7F6F5F4F3F2F1F0FL) == 1) {
                saw("read(" + tape + ", 0), an item of many bits", x.read(tape, 0));
            }
        }
    }

    private void rows(int blocks) {
        for (int b = 0; b < blocks; b++) {
            for (int part = 0; part < 4 && x.of(b, 0) == 6; part++) {
                saw("row(" + b + ", " + part + ", 0)", x.row(b, part, 0));
            }
        }
    }

    private void image() {
        int blocks = x.undo();
        saw("undo()", blocks);
        for (int what = 0; what <= 4; what++) {
            saw("count(" + what + ") then", x.count(what));
            saw("told(" + what + ") then", x.told(what));
        }
        for (int b = 0; b < blocks; b++) {
            for (int what = 0; what <= 4; what++) {
                saw("of(" + b + ", " + what + ") then", x.of(b, what));
            }
            saw("dryness(" + b + ", 0) then", x.dryness(b, 0));
        }
        saw("looked() then", x.looked());
        saw("ends(0) then", x.ends(0));
        rows(blocks);
    }

    private void text() {
        saw("hill()", x.hill());
        for (int what = 1; what <= 3; what++) {
            saw("told(" + what + ") behind that", x.told(what));
        }
    }
}

import java.util.ArrayList;
import java.util.List;

/**
 * All that can be asked of an object, read to the end: what is, then what each undo leaves, then the deposits,
 * then the image with its own, and the tape. Two objects with one trace can't be told apart. (The class keeps
 * no count of its calls, so that a trace may be longer than the 512 that the document promises.)
 */
final class Trace {
    private final CostumeStock x;
    private final List<String> rows = new ArrayList<>();

    private Trace(CostumeStock x) {
        this.x = x;
    }

    /** Uses both objects up. */
    static void same(String what, CostumeStock got, CostumeStock want) {
        List<String> rows = of(got);
        List<String> due = of(want);
        Check.due(what + ": rows to compare", rows.size(), due.size());
        for (int i = 0; i < Math.min(rows.size(), due.size()); i++) {
            if (!rows.get(i).equals(due.get(i))) {
                Check.due(what + " " + rows.get(i) + ", due is " + due.get(i), false, true);
                return;
            }
        }
    }

    static List<String> of(CostumeStock x) {
        Trace trace = new Trace(x);
        trace.readAll();
        boolean more = true;
        for (int i = 0; i < 8 && more; i++) {
            more = x.undo();
            trace.row("undo()", more ? 1 : 0);
            trace.readStock();
        }
        trace.readDeposits();
        trace.row("image(false)", x.image(false) ? 1 : 0);
        trace.readAll();
        trace.readTape();
        trace.readDeposits();
        return trace.rows;
    }

    /** A deposit is seen when it is paid back. */
    private void readDeposits() {
        for (int thing = 0; thing < x.look(0); thing++) {
            row("back", thing, 0, x.back(thing, 0));
        }
    }

    private void row(String call, long answer) {
        rows.add(call + " = " + answer);
    }

    private void row(String call, int a, int b, long answer) {
        rows.add(call + "(" + a + ", " + b + ") = " + answer);
    }

    private void readAll() {
        row("fault(0)", x.fault(0));
        row("fault(1)", x.fault(1));
        readStock();
        readScenes();
        readThought();
    }

    private void readStock() {
        for (int what = 0; what < 36; what++) {
            row("look", what, 0, x.look(what));
        }
        for (int thing = 0; thing < x.look(0); thing++) {
            for (int what = 0; what <= 10; what++) {
                row("of", thing, what, x.of(thing, what));
            }
            for (int measure = 0; measure < 5; measure++) {
                row("at made", thing, measure, x.at(thing, measure, 0));
                row("at now", thing, measure, x.at(thing, measure, 1));
            }
            for (int slot = 0; slot < 4; slot++) {
                row("slot", 10 + thing, slot, x.slot(10 + thing, slot));
            }
        }
        for (int rack = 0; rack < x.look(2); rack++) {
            for (int slot = 0; slot < 8; slot++) {
                row("slot", rack, slot, x.slot(rack, slot));
            }
        }
        for (int line = 0; line < x.look(5); line++) {
            for (int what = 0; what < 4; what++) {
                row("book", line, what, x.book(line, what));
            }
        }
    }

    private void readScenes() {
        for (int actor = 0; actor < x.look(1); actor++) {
            for (int measure = 0; measure < 5; measure++) {
                row("body", actor, measure, x.body(actor, measure));
            }
        }
        for (int i = 0; i < x.look(10); i++) {
            for (int what = 0; what < 3; what++) {
                row("wear", i, what, x.wear(i, what));
            }
        }
    }

    private void readThought() {
        for (int thing = 0; thing < x.look(0); thing++) {
            for (int actor = 0; actor < x.look(1); actor++) {
                row("fits", thing, actor, x.fits(thing, actor));
                row("cost", thing, actor, x.cost(thing, actor));
            }
        }
        for (int what = 0; what < 66; what++) {
            row("plan", what, 0, x.plan(what));
        }
        for (int what = 0; what < 4; what++) {
            row("swaps", what, 0, x.swaps(what));
            row("mends", 99999, what, x.mends(99999, what));
        }
        for (int what = 0; what < 2; what++) {
            row("tour", what, 0, x.tour(what));
            row("earns", what, 0, x.earns(what));
        }
    }

    private void readTape() {
        int bytes = 400;
        while (bytes > 0 && !x.end(bytes)) {
            bytes--;
        }
        row("bytes of the tape", bytes);
        row("text(0)", x.text(0));
        row("fault(0)", x.fault(0));
        row("fault(1)", x.fault(1));
        row("mends", 99999, 2, x.mends(99999, 2));
    }
}

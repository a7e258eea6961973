import java.util.ArrayList;
import java.util.List;

/** All that can be asked of a law, and all that it keeps: told with what was asked. The law is used up by it. */
final class Probe {
    private final Law law;
    private final int cells;
    private final int persons;
    private final List<String> answers = new ArrayList<>();

    private Probe(Law law) {
        this.law = law;
        this.persons = law.told(3);
        this.cells = law.told(0) * law.told(1);
    }

    static List<String> of(Law law) {
        Probe probe = new Probe(law);
        probe.now();
        probe.seen();
        probe.undone();
        probe.images();
        probe.text();
        return probe.answers;
    }

    private void add(String call, int answer) {
        answers.add(call + " " + answer);
    }

    private void now() {
        for (int what = 0; what <= 15; what++) {
            add("told(" + what + ")", law.told(what));
        }
        add("fault()", law.fault());
        for (int c = 0; c < cells; c++) {
            add("load", law.cell(c, 2));
            add("current", law.cell(c, 4));
        }
        for (int k = 0; k < 4; k++) {
            add("cold", law.cold(k));
        }
        state();
    }

    /** Section 2 of the document. */
    private void state() {
        for (int what : new int[] {5, 6, 8, 11}) {
            add("state " + what, law.told(what));
        }
        for (int c = 0; c < cells; c++) {
            add("inches of " + c, law.cell(c, 0));
        }
        for (int p = 0; p < persons; p++) {
            add("place of " + p, law.person(p, 2));
        }
    }

    private void seen() {
        for (int what = 0; what <= 2; what++) {
            add("who(" + what + ")", law.who(what));
        }
        add("ask()", law.ask());
        add("judge()", law.judge());
        add("tear()", law.tear());
        add("the seed", law.seed(1));
    }

    private void undone() {
        for (int k = 0; k < 17; k++) {
            int left = law.undo();
            add("undo()", left);
            if (left < 0) {
                break;
            }
            state();
        }
    }

    private void images() {
        for (int i = 0; i <= 1; i++) {
            int back = law.goBack(i);
            add("goBack(" + i + ")", back);
            if (back > 0) {
                state();
                add("its seed", law.seed(1));
            }
        }
    }

    /** What was told already is seen by what it becomes with the rest of a clause. */
    private void text() {
        add("feed", law.feed('9'));
        add("feed", law.feed(';'));
        add("river()", law.river());
        add("fault()", law.fault());
        for (int what = 0; what <= 4; what++) {
            add("told(" + what + ")", law.told(what));
        }
        for (int c = 0; c < 2; c++) {
            add("thick", law.cell(c, 0));
        }
    }
}

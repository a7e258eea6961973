import java.util.ArrayList;
import java.util.List;
import java.util.function.Consumer;
import java.util.function.ToIntFunction;

/** The order of refusals; what is refused changes nothing, and nothing changes by what is only asked: each call on a law beside a twin without it. */
public final class RefusedTest {
    private static final int UNKNOWN = IceLaw.UNKNOWN;
    private static final int OUTSIDE = IceLaw.OUTSIDE;
    private static final int NOT = IceLaw.NOT;
    private static final int FULL = IceLaw.FULL;

    private record Call(String name, ToIntFunction<Law> call, int want) { }

    private static final List<Call> CALLS = new ArrayList<>();

    public static void main(String[] args) {
        newLaw();
        richLaw();
        fullLaw();
        lateLaw();
        asked();
        orderWithoutRiver();
        orderOnRiver();
        orderWhenFull();
        Check.end("RefusedTest");
    }

    private static void refused(String name, ToIntFunction<Law> call, int want) {
        CALLS.add(new Call(name, call, want));
    }

    /** Each of the calls on a law of its own, then all of them on one. */
    private static void dueTwins(String state, Consumer<Law> setUp) {
        List<String> untouched = probed(setUp, List.of());
        for (Call call : CALLS) {
            dueSame(state + ", behind " + call.name, probed(setUp, List.of(call)), untouched);
        }
        dueSame(state + ", behind all of them", probed(setUp, CALLS), untouched);
        CALLS.clear();
    }

    private static List<String> probed(Consumer<Law> setUp, List<Call> calls) {
        Law law = new Law();
        setUp.accept(law);
        for (Call call : calls) {
            Check.due(call.name, call.call.applyAsInt(law), call.want);
        }
        return Probe.of(law);
    }

    private static void dueSame(String where, List<String> got, List<String> want) {
        Check.due(where + ": answers", got.size(), want.size());
        for (int k = 0; k < Math.min(got.size(), want.size()); k++) {
            boolean isSame = got.get(k).equals(want.get(k));
            Check.due(where + ": " + got.get(k) + " for " + want.get(k), isSame ? 1 : 0, 1);
        }
    }

    private static void newLaw() {
        Check.about("What is refused changes nothing.");
        refusedAnywhere();
        refused("cell(0, 0)", law -> law.cell(0, 0), UNKNOWN);
        refused("person(0, 0)", law -> law.person(0, 0), UNKNOWN);
        refused("cold(0)", law -> law.cold(0), NOT);
        refused("night(1)", law -> law.night(1), NOT);
        refused("step(0, 0)", law -> law.step(0, 0), UNKNOWN);
        refused("step(0, NONE)", law -> law.step(0, -1), UNKNOWN);
        refused("salt(0, 0, 1)", law -> law.salt(0, 0, 1), UNKNOWN);
        refused("snow(0, true)", law -> law.snow(0, true), UNKNOWN);
        refused("spring()", law -> law.spring(), NOT);
        refused("drift(1)", law -> law.drift(1), NOT);
        refused("undo()", law -> law.undo(), NOT);
        refused("then(0, 0)", law -> law.then(0, 0), UNKNOWN);
        refused("when(0, 1)", law -> law.when(0, 1), UNKNOWN);
        refused("noMore(0, 1)", law -> law.noMore(0, 1), UNKNOWN);
        refused("over(0, 0)", law -> law.over(0, 0), UNKNOWN);
        refused("fewest(0)", law -> law.fewest(0), UNKNOWN);
        refused("leastSalt(0)", law -> law.leastSalt(0), UNKNOWN);
        refused("lives(0, 0)", law -> law.lives(0, 0), UNKNOWN);
        refused("heard(0)", law -> law.heard(0), UNKNOWN);
        refused("write(0, 0)", law -> law.write(0, 0), UNKNOWN);
        refused("goBack(0)", law -> law.goBack(0), NOT);
        refused("goBack(1)", law -> law.goBack(1), NOT);
        dueTwins("a new law", law -> law.tell("r2 1 "));
    }

    /** Refused in any state, by numbers out of their bounds alone. */
    private static void refusedAnywhere() {
        refused("feed(-1)", law -> law.feed(-1), OUTSIDE);
        refused("feed(256)", law -> law.feed(256), OUTSIDE);
        refused("told(-1)", law -> law.told(-1), OUTSIDE);
        refused("told(16)", law -> law.told(16), OUTSIDE);
        refused("cell(18, 0)", law -> law.cell(18, 0), UNKNOWN);
        refused("person(6, 0)", law -> law.person(6, 0), UNKNOWN);
        refused("cold(10000)", law -> law.cold(10000), OUTSIDE);
        refused("night(0)", law -> law.night(0), OUTSIDE);
        refused("night(61)", law -> law.night(61), OUTSIDE);
        refused("step(6, 0)", law -> law.step(6, 0), UNKNOWN);
        refused("step(0, 18)", law -> law.step(0, 18), UNKNOWN);
        refused("step(0, -2)", law -> law.step(0, -2), UNKNOWN);
        refused("salt(0, 18, 1)", law -> law.salt(0, 18, 1), UNKNOWN);
        refused("snow(18, true)", law -> law.snow(18, true), UNKNOWN);
        refused("snow(-1, true)", law -> law.snow(-1, true), UNKNOWN);
        refused("drift(0)", law -> law.drift(0), OUTSIDE);
        refused("drift(61)", law -> law.drift(61), OUTSIDE);
        refused("game(100, 0, 0, 0, 0)", law -> law.game(100, 0, 0, 0, 0), OUTSIDE);
        refused("tolls(100, 0)", law -> law.tolls(100, 0), OUTSIDE);
        refused("thaw(61, 0)", law -> law.thaw(61, 0), OUTSIDE);
        refused("see(0, true)", law -> law.see(0, true), OUTSIDE);
        refused("see(61, false)", law -> law.see(61, false), OUTSIDE);
        refused("who(3)", law -> law.who(3), OUTSIDE);
        refused("write(18, 0)", law -> law.write(18, 0), UNKNOWN);
        refused("seed(-1)", law -> law.seed(-1), OUTSIDE);
        refused("keep(2)", law -> law.keep(2), UNKNOWN);
        refused("keep(-1)", law -> law.keep(-1), UNKNOWN);
        refused("goBack(2)", law -> law.goBack(2), UNKNOWN);
    }

    /** Cell 2 is a hole, person 1 is drowned, person 0 stands on cell 0, snow lies on cell 1. */
    private static void makeRich(Law law) {
        law.read("r3 1 10;t9,9,9;c1,0;n13,11,9;p0 60;p1 40;p0 5;");
        law.seed(99);
        law.step(1, 2);
        law.keep(1);
        law.night(1);
        law.step(0, 0);
        law.salt(1, 2, 60);
        law.snow(1, true);
        law.see(6, true);
        law.see(9, false);
        law.write(1, 12);
        law.write(0, 12);
        law.seed(1234567);
        law.tell("r2 1 ");
    }

    private static void richLaw() {
        Check.about("What is refused changes nothing.");
        refusedAnywhere();
        refused("cell(3, 0)", law -> law.cell(3, 0), UNKNOWN);
        refused("cell(0, 6)", law -> law.cell(0, 6), OUTSIDE);
        refused("person(3, 0)", law -> law.person(3, 0), UNKNOWN);
        refused("person(0, 3)", law -> law.person(0, 3), OUTSIDE);
        refused("step aslant or far", law -> law.step(2, 1), NOT);
        refused("step onto a hole", law -> law.step(0, 2), NOT);
        refused("step to itself", law -> law.step(0, 0), NOT);
        refused("step from the bank to the bank", law -> law.step(2, -1), NOT);
        refused("step of who is drowned", law -> law.step(1, 1), NOT);
        refused("step to the bank of who is drowned", law -> law.step(1, -1), NOT);
        refused("step(3, 0)", law -> law.step(3, 0), UNKNOWN);
        refused("step(0, 3)", law -> law.step(0, 3), UNKNOWN);
        refused("salt by town 2", law -> law.salt(2, 0, 1), OUTSIDE);
        refused("salt of 61", law -> law.salt(0, 0, 61), OUTSIDE);
        refused("salt of 0", law -> law.salt(0, 0, 0), OUTSIDE);
        refused("salt of less than 0", law -> law.salt(0, 0, -5), OUTSIDE);
        refused("salt on a hole", law -> law.salt(0, 2, 1), NOT);
        refused("snow(3, false)", law -> law.snow(3, false), UNKNOWN);
        refused("then(0, 61)", law -> law.then(0, 61), OUTSIDE);
        refused("when(0, 1000)", law -> law.when(0, 1000), OUTSIDE);
        refused("noMore(0, 0)", law -> law.noMore(0, 0), OUTSIDE);
        refused("over(0, 2)", law -> law.over(0, 2), OUTSIDE);
        refused("over of who is drowned", law -> law.over(1, 0), NOT);
        refused("fewest of a hole", law -> law.fewest(2), NOT);
        refused("lives(0, 2)", law -> law.lives(0, 2), OUTSIDE);
        refused("lives of who is drowned", law -> law.lives(1, 0), NOT);
        refused("write(0, 61)", law -> law.write(0, 61), OUTSIDE);
        refused("write(3, 0)", law -> law.write(3, 0), UNKNOWN);
        refused("goBack(0), not kept", law -> law.goBack(0), NOT);
        dueTwins("a rich law", RefusedTest::makeRich);
    }

    /** 240 letters, 6 seen, 15 entries, 16 that can be undone. */
    private static void makeFull(Law law) {
        law.read("r2 1 10;t30;n11;p0 60;");
        for (int k = 0; k < 17; k++) {
            law.night(1);
        }
        for (int k = 0; k < 6; k++) {
            law.see(60, false);
        }
        for (int k = 0; k < 15; k++) {
            law.write(k % 2, 40);
        }
        law.tell("r2 1" + " ".repeat(234) + "7;");
    }

    private static void fullLaw() {
        Check.about("What is refused changes nothing.");
        refused("the 241st letter", law -> law.feed('x'), FULL);
        refused("the 241st letter, out of bounds", law -> law.feed(256), OUTSIDE);
        refused("the seventh that is seen", law -> law.see(1, true), FULL);
        refused("the seventh, out of bounds", law -> law.see(61, true), OUTSIDE);
        refused("the sixteenth entry", law -> law.write(0, 1), FULL);
        refused("the sixteenth entry of a cell that there is not", law -> law.write(2, 1), UNKNOWN);
        refused("the sixteenth entry, out of bounds", law -> law.write(1, -1), OUTSIDE);
        dueTwins("a full law", RefusedTest::makeFull);
    }

    private static void makeLate(Law law) {
        law.read("r2 1 10;t30;n11,9;p0 60;");
        for (int k = 0; k < 150; k++) {
            law.night(60);
        }
        law.keep(0);
        law.night(1);
        law.tell("r2 1 ");
    }

    private static void lateLaw() {
        Check.about("What is refused changes nothing.");
        refused("night(1)", law -> law.night(1), FULL);
        refused("night(60)", law -> law.night(60), FULL);
        refused("drift(1)", law -> law.drift(1), FULL);
        refused("drift(60)", law -> law.drift(60), FULL);
        refused("night(0)", law -> law.night(0), OUTSIDE);
        refused("drift(61)", law -> law.drift(61), OUTSIDE);
        dueTwins("a late law", RefusedTest::makeLate);
    }

    private static void asked() {
        Check.about("TRIED from now; nothing changes by it.");
        refused("then", law -> law.then(0, 60), 11);
        refused("when", law -> law.when(0, 130), -1);
        refused("noMore", law -> law.noMore(0, 110), 2);
        refused("over", law -> law.over(2, 0), -1);
        refused("over's cell", law -> law.over(0, 1), -1);
        refused("fewest", law -> law.fewest(0), -1);
        refused("leastSalt", law -> law.leastSalt(0), 6);
        refused("lives", law -> law.lives(0, 0), 0);
        refused("sinks", law -> law.lives(2, 1), 0);
        refused("heard", law -> law.heard(0), -1);
        refused("game", law -> law.game(5, 1, 2, 4, 0), 333333);
        refused("tolls", law -> law.tolls(9, 9), 0);
        refused("thaw", law -> law.thaw(3, 10), 729000);
        refused("who", law -> law.who(0), 1);
        refused("ask", law -> law.ask(), -1);
        refused("judge", law -> law.judge(), 1);
        refused("fault", law -> law.fault(), -1);
        refused("told", law -> law.told(12), 0);
        refused("cold", law -> law.cold(9999), 13);
        dueTwins("a rich law", RefusedTest::makeRich);
        refused("it would break and live", law -> law.lives(0, 0), 1 << 1);
        refused("it would sink", law -> law.lives(1, 1), 1 << 2);
        refused("the fewest", law -> law.fewest(1), 2);
        refused("the way over", law -> law.over(2, 0), 3);
        refused("its first cell", law -> law.over(2, 1), 0);
        refused("it cracks", law -> law.heard(1), 0);
        dueTwins("a thin law", RefusedTest::makeThin);
    }

    // ---- a call that several refusals fit: the first in the document's order

    private static void dueFirst(String call, int got, int want) {
        Check.due(call, got, want);
    }

    private static void orderWithoutRiver() {
        Check.about("REFUSALS, of several the first in this order: UNKNOWN");
        Law law = new Law();
        dueFirst("cell(0, 6): UNKNOWN, OUTSIDE", law.cell(0, 6), UNKNOWN);
        dueFirst("person(0, 3): UNKNOWN, OUTSIDE", law.person(0, 3), UNKNOWN);
        dueFirst("cold(-1): OUTSIDE, NOT", law.cold(-1), OUTSIDE);
        dueFirst("night(0): OUTSIDE, NOT", law.night(0), OUTSIDE);
        dueFirst("night(61): OUTSIDE, NOT", law.night(61), OUTSIDE);
        dueFirst("drift(0): OUTSIDE, NOT", law.drift(0), OUTSIDE);
        dueFirst("drift(61): OUTSIDE, NOT", law.drift(61), OUTSIDE);
        dueFirst("step(0, NONE): UNKNOWN, NOT", law.step(0, -1), UNKNOWN);
        dueFirst("salt(2, 0, 0): UNKNOWN, OUTSIDE", law.salt(2, 0, 0), UNKNOWN);
        dueFirst("then(0, 61): UNKNOWN, OUTSIDE", law.then(0, 61), UNKNOWN);
        dueFirst("when(0, 0): UNKNOWN, OUTSIDE", law.when(0, 0), UNKNOWN);
        dueFirst("noMore(0, 0): UNKNOWN, OUTSIDE", law.noMore(0, 0), UNKNOWN);
        dueFirst("over(0, 2): UNKNOWN, OUTSIDE", law.over(0, 2), UNKNOWN);
        dueFirst("lives(0, 2): UNKNOWN, OUTSIDE", law.lives(0, 2), UNKNOWN);
        dueFirst("write(0, 61): UNKNOWN, OUTSIDE", law.write(0, 61), UNKNOWN);
        dueFirst("goBack(2): UNKNOWN, NOT", law.goBack(2), UNKNOWN);
    }

    private static void orderOnRiver() {
        Check.about("REFUSALS, of several the first in this order: UNKNOWN");
        Law law = new Law();
        makeRich(law);
        dueFirst("cell(3, 6): UNKNOWN, OUTSIDE", law.cell(3, 6), UNKNOWN);
        dueFirst("person(3, 3): UNKNOWN, OUTSIDE", law.person(3, 3), UNKNOWN);
        dueFirst("step of who is drowned to no cell: UNKNOWN, NOT", law.step(1, 3), UNKNOWN);
        dueFirst("step of nobody onto a hole: UNKNOWN, NOT", law.step(3, 2), UNKNOWN);
        dueFirst("salt by no town on no cell: UNKNOWN, OUTSIDE", law.salt(2, 3, 1), UNKNOWN);
        dueFirst("salt of 61 on no cell: UNKNOWN, OUTSIDE", law.salt(0, 3, 61), UNKNOWN);
        dueFirst("salt by no town on a hole: OUTSIDE, NOT", law.salt(2, 2, 1), OUTSIDE);
        dueFirst("salt of 0 on a hole: OUTSIDE, NOT", law.salt(0, 2, 0), OUTSIDE);
        dueFirst("then(3, -1): UNKNOWN, OUTSIDE", law.then(3, -1), UNKNOWN);
        dueFirst("when(3, 1000): UNKNOWN, OUTSIDE", law.when(3, 1000), UNKNOWN);
        dueFirst("noMore(3, 1000): UNKNOWN, OUTSIDE", law.noMore(3, 1000), UNKNOWN);
        dueFirst("over(3, -1): UNKNOWN, OUTSIDE", law.over(3, -1), UNKNOWN);
        dueFirst("over of who is drowned, 2: OUTSIDE, NOT", law.over(1, 2), OUTSIDE);
        dueFirst("lives(3, -1): UNKNOWN, OUTSIDE", law.lives(3, -1), UNKNOWN);
        dueFirst("lives of who is drowned, -1: OUTSIDE, NOT", law.lives(1, -1), OUTSIDE);
        dueFirst("write(3, -1): UNKNOWN, OUTSIDE", law.write(3, -1), UNKNOWN);
        dueFirst("goBack(-1): UNKNOWN, NOT", law.goBack(-1), UNKNOWN);
    }

    private static void orderWhenFull() {
        Check.about("OUTSIDE (another number out of its bounds), NOT (not now, as told), FULL.");
        Law full = new Law();
        makeFull(full);
        dueFirst("feed(256): OUTSIDE, FULL", full.feed(256), OUTSIDE);
        dueFirst("feed(-1): OUTSIDE, FULL", full.feed(-1), OUTSIDE);
        dueFirst("see(0, true): OUTSIDE, FULL", full.see(0, true), OUTSIDE);
        dueFirst("see(61, true): OUTSIDE, FULL", full.see(61, true), OUTSIDE);
        dueFirst("write(2, 0): UNKNOWN, FULL", full.write(2, 0), UNKNOWN);
        dueFirst("write(2, 61): UNKNOWN, OUTSIDE, FULL", full.write(2, 61), UNKNOWN);
        dueFirst("write(0, 61): OUTSIDE, FULL", full.write(0, 61), OUTSIDE);
        Law late = new Law();
        makeLate(late);
        dueFirst("night(0): OUTSIDE, FULL", late.night(0), OUTSIDE);
        dueFirst("night(61): OUTSIDE, FULL", late.night(61), OUTSIDE);
        dueFirst("drift(0): OUTSIDE, FULL", late.drift(0), OUTSIDE);
        dueFirst("drift(61): OUTSIDE, FULL", late.drift(61), OUTSIDE);
        late.river();
        late.river();
        dueFirst("no river any more: NOT", late.night(1), NOT);
    }

    /** Person 0 on cell 0, that cracks; on cell 1 it would break cell 2. */
    private static void makeThin(Law law) {
        law.read("r3 1 1;t40,40,18;n11;p0 38;p1 39;p0 1;");
        law.step(0, 0);
        law.snow(2, true);
        law.tell("r2 1 ");
    }
}

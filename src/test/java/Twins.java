import java.util.ArrayList;
import java.util.List;
import java.util.function.Supplier;

/**
 * Two objects made by the same calls, one of which gets one call more: what that call must leave as it
 * was is held against the other one, by all that can be asked of both. All of it, from the making of
 * an object on, stays below the 512 calls for which an object may be used.
 */
final class Twins {
    /** A call on an object; what it answers is boxed. */
    interface Call {
        Object on(NothingAboveThree x);
    }

    private static final List<String> REFUSALS = List.of(Check.INDEX, Check.ELEMENT, Check.ARGUMENT, Check.STATE);

    private final NothingAboveThree x;
    private final List<String> seen = new ArrayList<>();

    private Twins(NothingAboveThree x) {
        this.x = x;
    }

    /**
     * An object of which everything is other than at first: three HEAPS (3, 1, 2), three PLACES
     * (1, 3, 0), mind 5, words 2, pairs, moves; WAYS 0 (ALLOWED), 1 (not ALLOWED), 2 (the latest
     * RUN); two TASKS; tables; one IMAGE; each kind of refusal once; a FAULT at 6; 20 bytes on the TAPE.
     */
    static NothingAboveThree scene() {
        NothingAboveThree x = Check.in("heaps 2;places 1;");
        x.heap(1, 8);
        x.field(5, 3, 98);
        x.mark(5, 5, true);
        x.rate(5, 4, 98, 97);
        x.knows(9, 8);
        x.image();
        Check.valley(x, "heaps 3;places 3;mind 5;words 2;pairs;moves;");
        Check.way(x, "take 0;up 0;");
        Check.way(x, "put 3;");
        Check.way(x, "put 0;put 1;say 2;");
        Check.task(x, "now 0=was 0-1;");
        Check.task(x, "said=2 or at 0=2;");
        for (int i = 0; i < 3; i++) {
            x.heap(i, new int[] {3, 1, 2}[i]);
            x.place(i, new int[] {1, 3, 0}[i]);
        }
        x.run(2, 9);
        x.field(0, 0, 7);
        x.field(1, 1, 7);
        x.mark(0, 1, true);
        x.rate(0, 1, 2, 3);
        x.rate(1, 0, 4, 3);
        x.knows(5, 3);
        for (Call each : List.<Call>of(y -> y.judge(9), y -> y.act(0, 9, 0), y -> y.told(9), y -> y.run(1, 1))) {
            Check.answer(() -> each.on(x));
        }
        Check.valley(x, "heaps 13;");
        Check.feed(x, "heaps 4;            ");
        return x;
    }

    /** A scene whose VALLEY is another one: HEAPS and PLACES 0, no latest RUN. */
    static Supplier<NothingAboveThree> sceneIn(String valley) {
        return () -> {
            NothingAboveThree x = scene();
            x.valley(0);
            Check.valley(x, valley);
            return x;
        };
    }

    /** The call throws; that it was there is told by status() alone. */
    static void refused(String exception, String what, Call call) {
        refused(exception, what, Twins::scene, call);
    }

    static void refused(String exception, String what, Supplier<NothingAboveThree> made, Call call) {
        NothingAboveThree x = made.get();
        NothingAboveThree y = made.get();
        Check.due(exception, what, () -> call.on(x));
        alike(x, y, exception, what);
    }

    /** The call answers, and changes nothing. */
    static void still(Object want, String what, Call call) {
        still(want, what, Twins::scene, call);
    }

    static void still(Object want, String what, Supplier<NothingAboveThree> made, Call call) {
        NothingAboveThree x = made.get();
        NothingAboveThree y = made.get();
        Check.due(want, what, () -> call.on(x));
        alike(x, y, "", what);
    }

    private static void alike(NothingAboveThree x, NothingAboveThree y, String refusal, String what) {
        for (int i = 0; i < REFUSALS.size(); i++) {
            int slot = i;
            int due = y.status(i) + (REFUSALS.get(i).equals(refusal) ? 1 : 0);
            Check.due(due, what + ": status " + slot, () -> x.status(slot));
        }
        Check.due("", what + ": what it changed", () -> difference(x, y));
    }

    /** The call answers; what it changes is not looked at. */
    static void taken(Object want, String what, Call call) {
        taken(want, what, Twins::scene, call);
    }

    static void taken(Object want, String what, Supplier<NothingAboveThree> made, Call call) {
        NothingAboveThree x = made.get();
        Check.due(want, what, () -> call.on(x));
    }

    /** The first answer that is not alike; both objects are used up by it. */
    static String difference(NothingAboveThree x, NothingAboveThree y) {
        List<String> ours = new Twins(x).all();
        List<String> others = new Twins(y).all();
        for (int i = 0; i < ours.size() && i < others.size(); i++) {
            if (!ours.get(i).equals(others.get(i))) {
                return ours.get(i) + ", not " + others.get(i);
            }
        }
        return ours.size() == others.size() ? "" : "more";
    }

    private void ask(String what, Supplier<?> call) {
        seen.add(what + " " + Check.answer(call));
    }

    private List<String> all() {
        ask("fault", () -> x.fault());
        for (int i = 0; i < 4; i++) {
            int what = i;
            ask("count " + i, () -> x.count(what));
        }
        ways();
        told();
        latest();
        flock();
        tables();
        ask("on", () -> x.on());
        flock();
        ask("restore", () -> x.restore());
        told();
        latest();
        flock();
        tables();
        ask("restore", () -> x.restore());
        ask("the text on the tape", () -> x.valley(x.count(3)));
        told();
        return seen;
    }

    private void told() {
        for (int i = 0; i < 8; i++) {
            int what = i;
            ask("told " + i, () -> x.told(what));
        }
    }

    private void ways() {
        for (int w = 0; w < x.count(0); w++) {
            int way = w;
            ask("judge " + w, () -> x.judge(way));
            for (int k = 0; k < 2; k++) {
                int at = k;
                ask("kind of act " + k + " of " + w, () -> x.act(way, at, 0));
                ask("number of act " + k + " of " + w, () -> x.act(way, at, 1));
            }
            for (int t = 0; t < x.count(1); t++) {
                int task = t;
                ask("holds " + w + " " + t, () -> x.holds(way, task));
            }
        }
    }

    private void latest() {
        for (int i = 0; i < 4; i++) {
            int what = i;
            ask("ends " + i, () -> x.ends(what));
        }
        for (int i = 0; i < 3; i++) {
            int which = i;
            ask("row " + i, () -> x.row(which));
            ask("left " + i, () -> x.left(which));
        }
    }

    /** What they were is told by setting them. */
    private void flock() {
        for (int i = 0; i < 3; i++) {
            int which = i;
            ask("heap " + i, () -> x.heap(which, 0));
            ask("place " + i, () -> x.place(which, 0));
        }
    }

    private void tables() {
        for (int i = 0; i < 36; i++) {
            int one = i / 6;
            int other = i % 6;
            ask("mark " + one + " " + other, () -> x.mark(one, other, false));
            if (one != other) {
                ask("rate " + one + " " + other, () -> x.rate(one, other, 0, 0));
            }
            if (other < 4) {
                ask("field " + one + " " + other, () -> x.field(one, other, 0));
            }
        }
        for (int i = 2; i <= 9; i++) {
            int by = i;
            ask("knows " + by, () -> x.knows(by, -1));
        }
    }
}

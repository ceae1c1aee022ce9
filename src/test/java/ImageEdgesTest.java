import java.util.List;
import java.util.function.Supplier;

/** Promises 46 to 49, and the 512 calls: each sentence that names an edge, on both sides of it. */
public final class ImageEdgesTest {
    private static final int LEAST = Integer.MIN_VALUE;
    private static final int MOST = Integer.MAX_VALUE;

    public static void main(String[] args) {
        image();
        restore();
        order();
        allBut();
        withoutRun();
        status();
        statusCounts();
        count();
        lastCall();
        Check.end();
    }

    private static Supplier<NothingAboveThree> withImages(int images) {
        return () -> {
            NothingAboveThree x = new NothingAboveThree();
            for (int i = 0; i < images; i++) {
                x.heap(0, i + 1);
                x.image();
            }
            x.heap(0, 9);
            return x;
        };
    }

    /** Promise 46: "how many there are; -1: there are 3". */
    private static void image() {
        for (int images = 0; images < 3; images++) {
            Twins.taken(images + 1, "promise 46: behind " + images, withImages(images), x -> x.image());
        }
        Twins.still(-1, "promise 46: there are 3", withImages(3), x -> x.image());
        Twins.taken("-1 2 3", "promise 46: the third is as it was", withImages(3),
                x -> x.image() + " " + x.restore() + " " + x.heap(0, 0));
        Twins.taken("2 3 -1", "promise 46: room again behind restore()", withImages(3),
                x -> x.restore() + " " + x.image() + " " + x.image());
    }

    /** Promise 47: "how many are left; -1: there is none". */
    private static void restore() {
        Twins.still(-1, "promise 47: there is none", withImages(0), x -> x.restore());
        Twins.still(-1, "promise 47: there is none", () -> {
            NothingAboveThree x = withImages(1).get();
            x.restore();
            return x;
        }, x -> x.restore());
        for (int images = 1; images <= 3; images++) {
            Twins.taken((images - 1) + " " + images, "promise 47: of " + images, withImages(images),
                    x -> x.restore() + " " + x.heap(0, 0));
        }
    }

    /** Promise 47: "the latest IMAGE, which is gone". */
    private static void order() {
        Twins.taken("2 3 1 2 0 1 -1 7", "promise 47: one after the other", withImages(3), x -> x.restore() + " "
                + x.heap(0, 5) + " " + x.restore() + " " + x.heap(0, 6) + " " + x.restore() + " " + x.heap(0, 7) + " "
                + x.restore() + " " + x.heap(0, 8));
        Twins.taken("2 3 8 2 8", "promise 47: a later one in its place", withImages(3), x -> {
            StringBuilder text = new StringBuilder().append(x.restore());
            x.heap(0, 8);
            text.append(' ').append(x.image()).append(' ').append(x.heap(0, 1));
            return text.append(' ').append(x.restore()).append(' ').append(x.heap(0, 1)).toString();
        });
    }

    /** What image() leaves and restore() brings back: "all but the TAPE, the FAULT, WAYS and TASKS". */
    private static void allBut() {
        NothingAboveThree x = Twins.scene();
        NothingAboveThree y = Twins.scene();
        Check.due(2, "promise 46: a second one", () -> x.image());
        Check.answer(() -> x.run(0, 9));
        for (Twins.Call each : List.<Twins.Call>of(z -> z.heap(0, 9), z -> z.place(2, 3), z -> z.field(0, 0, 9),
                z -> z.field(5, 3, 9), z -> z.mark(0, 1, false), z -> z.mark(5, 4, true), z -> z.rate(1, 0, 9, 9),
                z -> z.rate(5, 4, 0, 0), z -> z.knows(5, -1), z -> z.knows(2, 1), z -> z.on())) {
            each.on(x);
        }
        Check.due(1, "promise 47: one is left", () -> x.restore());
        Check.due("", "promise 47: all is as in it", () -> Twins.difference(x, y));
        Twins.taken("1 0", "promise 46: not the FAULT", z -> {
            z.image();
            z.way(0);
            z.restore();
            return z.count(2) + " " + z.fault();
        });
        Twins.taken("0 4 3", "promise 46: not the TAPE, WAYS, TASKS", z -> {
            z.image();
            z.way(0);
            Check.way(z, "end;");
            Check.task(z, "1=1;");
            z.restore();
            return z.count(3) + " " + z.count(0) + " " + z.count(1);
        });
        Twins.taken("2 0 24 3 0 0 -1 1 0", "promise 47: another VALLEY was told since", withImages(1), z -> {
            Check.valley(z, "heaps 12;places 24;mind 1;words 0;pairs;moves;");
            z.restore();
            StringBuilder text = new StringBuilder();
            for (int i = 0; i < 6; i++) {
                text.append(z.told(i)).append(' ');
            }
            return text.append(z.ends(0)).append(' ').append(z.heap(0, 0)).append(' ').append(z.heap(1, 0)).toString();
        });
    }

    /** "(The latest run() is in it.)": also that there was none, and one ahead of a VALLEY told since. */
    private static void withoutRun() {
        Twins.taken("0 -1 -1 0", "promise 47: ahead of any run()", withImages(1), x -> {
            Check.way(x, "put 0;");
            x.run(0, 1);
            return x.restore() + " " + x.ends(0) + " " + x.row(0) + " " + x.on();
        });
        Twins.taken("-1 1 1 3 2 2 4", "promise 47: behind a run()", x -> {
            x.image();
            x.valley(0);
            return x.ends(0) + " " + x.restore() + " " + x.ends(0) + " " + x.ends(1) + " " + x.ends(2) + " " + x.ends(3)
                    + " " + x.row(0);
        });
    }

    /** Promise 48: "NONE for others". */
    private static void status() {
        for (int what = 0; what < 4; what++) {
            int so = what;
            Twins.still(1, "promise 48: " + what, x -> x.status(so));
            Twins.still(0, "promise 48: of none", NothingAboveThree::new, x -> x.status(so));
        }
        for (int what : new int[] {-1, 4, LEAST, MOST}) {
            Twins.still(-1, "promise 48: " + what, x -> x.status(what));
        }
    }

    /** Promise 48: "how many calls were refused"; "(No IMAGE keeps it.)"; what answers -1 was not refused. */
    private static void statusCounts() {
        Twins.Call[] refused = {x -> x.judge(7), x -> x.holds(0, 7), x -> x.told(8), x -> x.run(1, 1)};
        for (int i = 0; i < 4; i++) {
            int slot = i;
            Twins.taken("1 9 9", "promise 48: more of " + i, x -> {
                int before = x.status(slot);
                x.image();
                for (int k = 0; k < 8; k++) {
                    Check.answer(() -> refused[slot].on(x));
                }
                int behind = x.status(slot);
                x.restore();
                return before + " " + behind + " " + x.status(slot);
            });
        }
        Twins.taken("1 1 1 1", "promise 48: -1 is no refusal", x -> {
            x.way(0);
            x.valley(0);
            for (int i = 0; i < 21; i++) {
                x.feed(0, 0, 0, 0, 0);
            }
            for (int i = 0; i < 4; i++) {
                x.image();
            }
            x.status(4);
            x.count(-1);
            x.find(0, 1, 0, 1, 1, 0);
            return x.status(0) + " " + x.status(1) + " " + x.status(2) + " " + x.status(3);
        });
    }

    /** Promise 49: "0 WAYS, 1 TASKS, 2 IMAGES, 3 bytes of the TAPE; NONE for others". */
    private static void count() {
        int[] want = {3, 2, 1, 20};
        for (int what = 0; what < 4; what++) {
            int so = what;
            Twins.still(want[what], "promise 49: " + what, x -> x.count(so));
            Twins.still(0, "promise 49: of none", NothingAboveThree::new, x -> x.count(so));
        }
        for (int what : new int[] {-1, 4, LEAST, MOST}) {
            Twins.still(-1, "promise 49: " + what, x -> x.count(what));
        }
        Twins.taken("6 6 3 400", "promise 49: full", x -> {
            x.valley(0);
            for (int i = 0; i < 7; i++) {
                Check.way(x, "end;");
                Check.task(x, "1=1;");
                x.image();
            }
            for (int i = 0; i < 21; i++) {
                x.feed(0, 0, 0, 0, 0);
            }
            return x.count(0) + " " + x.count(1) + " " + x.count(2) + " " + x.count(3);
        });
    }

    /** "An object is used for at most 512 calls": the last of them answers as the first. */
    private static void lastCall() {
        NothingAboveThree x = new NothingAboveThree();
        for (int i = 1; i < 512; i++) {
            int v = i;
            Check.due(v - 1, "call " + i, () -> x.heap(0, v));
        }
        Check.due(511, "the 512th call", () -> x.heap(0, 0));
        NothingAboveThree y = new NothingAboveThree();
        for (int i = 0; i < 511; i++) {
            Check.answer(() -> y.told(8));
        }
        Check.due(511, "the 512th call", () -> y.status(2));
    }
}

import java.util.function.Supplier;

/** Promises 10 to 17: each sentence that names an edge, on both sides of it, and all that is refused. */
public final class RunEdgesTest {
    private static final int LEAST = Integer.MIN_VALUE;
    private static final int MOST = Integer.MAX_VALUE;
    private static final int BILLION = 1000000000;

    public static void main(String[] args) {
        heap();
        place();
        noSuch();
        runRefused();
        runActs();
        heapFull();
        heapEmpty();
        placeEdges();
        jumpEdges();
        lastOfAll();
        ends();
        rowAndLeft();
        noLatestRun();
        on();
        holds();
        holdsByActs();
        values();
        lastValues();
        signs();
        sixThere();
        Check.end();
    }

    /** Promise 10: "A HEAP of THE FLOCK: what it was" (0 to 1,000,000,000). */
    private static void heap() {
        Twins.taken(3, "promise 10: the first HEAP", x -> x.heap(0, 0));
        Twins.taken(2, "promise 10: the last HEAP", x -> x.heap(2, BILLION));
        Twins.taken("2 1000000000", "promise 10: the greatest", x -> x.heap(2, BILLION) + " " + x.heap(2, 0));
        Twins.taken("2 0", "promise 10: the least", x -> x.heap(2, 0) + " " + x.heap(2, 5));
        Twins.still(2, "promise 10: what it is already", x -> x.heap(2, 2));
        for (int h : new int[] {-1, 3, 12, LEAST, MOST}) {
            Twins.refused(Check.ARGUMENT, "promise 10: HEAP " + h, x -> x.heap(h, 0));
        }
        for (int v : new int[] {-1, BILLION + 1, LEAST, MOST}) {
            Twins.refused(Check.ARGUMENT, "promise 10: so many: " + v, x -> x.heap(0, v));
        }
    }

    /** Promise 11: "A PLACE of THE FLOCK, likewise" (0 to 3). */
    private static void place() {
        Twins.taken(1, "promise 11: the first PLACE", x -> x.place(0, 0));
        Twins.taken(0, "promise 11: the last PLACE", x -> x.place(2, 3));
        Twins.taken("3 0", "promise 11: the least", x -> x.place(1, 0) + " " + x.place(1, 1));
        Twins.taken("0 3", "promise 11: the greatest", x -> x.place(2, 3) + " " + x.place(2, 1));
        Twins.still(3, "promise 11: what it is already", x -> x.place(1, 3));
        for (int p : new int[] {-1, 3, 24, LEAST, MOST}) {
            Twins.refused(Check.ARGUMENT, "promise 11: PLACE " + p, x -> x.place(p, 0));
        }
        for (int v : new int[] {-1, 4, LEAST, MOST}) {
            Twins.refused(Check.ARGUMENT, "promise 11: so many: " + v, x -> x.place(0, v));
        }
    }

    /** "No such HEAP (so below)", and PLACES: as many as the VALLEY has, from 1 and 0 to 12 and 24. */
    private static void noSuch() {
        for (int many : new int[] {1, 2, 12}) {
            Supplier<NothingAboveThree> scene = Twins.sceneIn("heaps " + many + ";");
            Twins.taken(0, "promise 10: of " + many, scene, x -> x.heap(many - 1, 1));
            Twins.still(-1, "promise 14: of " + many, scene, x -> x.row(many - 1));
            Twins.refused(Check.ARGUMENT, "promise 10: of " + many, scene, x -> x.heap(many, 1));
            Twins.refused(Check.ARGUMENT, "promise 14: of " + many, scene, x -> x.row(many));
        }
        for (int many : new int[] {0, 1, 24}) {
            Supplier<NothingAboveThree> scene = Twins.sceneIn("places " + many + ";");
            Twins.refused(Check.ARGUMENT, "promise 11: of " + many, scene, x -> x.place(many, 1));
            Twins.refused(Check.ARGUMENT, "promise 15: of " + many, scene, x -> x.left(many));
            if (many > 0) {
                Twins.taken(0, "promise 11: of " + many, scene, x -> x.place(many - 1, 1));
                Twins.still(-1, "promise 15: of " + many, scene, x -> x.left(many - 1));
            }
        }
    }

    /** Promise 12: no such WAY, then so many, then not ALLOWED. */
    private static void runRefused() {
        for (int way : new int[] {-1, 3, LEAST, MOST}) {
            Twins.refused(Check.INDEX, "promise 12: WAY " + way, x -> x.run(way, 1));
            Twins.refused(Check.INDEX, "promise 12: WAY " + way + " ahead of acts", x -> x.run(way, 0));
        }
        for (int acts : new int[] {-1, 0, 4001, LEAST, MOST}) {
            Twins.refused(Check.ARGUMENT, "promise 12: acts " + acts, x -> x.run(0, acts));
            Twins.refused(Check.ARGUMENT, "promise 12: acts " + acts + " ahead of ALLOWED", x -> x.run(1, acts));
        }
        Twins.refused(Check.STATE, "promise 12: not ALLOWED", x -> x.run(1, 1));
        Twins.refused(Check.STATE, "promise 12: not ALLOWED", x -> x.run(1, 4000));
        Twins.taken(3, "promise 12: acts 1", x -> x.run(0, 1));
        Twins.taken(0, "promise 12: acts 4,000", x -> x.run(0, 4000));
        Twins.taken(1, "promise 12: the last WAY", x -> x.run(2, 4000));
    }

    /** An object of three HEAPS and two PLACES as told, with one WAY. */
    private static NothingAboveThree with(String way, int... flock) {
        NothingAboveThree x = Check.in("heaps 3;places 2;moves;pairs;");
        for (int i = 0; i < flock.length; i++) {
            if (i < 3) {
                x.heap(i, flock[i]);
            } else {
                x.place(i - 3, flock[i]);
            }
        }
        Check.way(x, way);
        return x;
    }

    /** How it ENDS, how many ACTS, where, what was SAID, the HEAPS and the PLACES behind. */
    private static void ran(String want, String way, int acts, int... flock) {
        NothingAboveThree x = with(way, flock);
        Check.due(want, "promise 12: " + way + " by " + acts, () -> x.run(0, acts) + " " + x.ends(1) + " " + x.ends(2)
                + " " + x.ends(3) + " : " + x.row(0) + " " + x.row(1) + " " + x.row(2) + " : " + x.left(0) + " " + x.left(1));
    }

    /** ENDS 3: "it has not ended by as many ACTS as were told"; "to come behind the last ACT is to end". */
    private static void runActs() {
        ran("3 1 1 9 : 1 0 0 : 0 0", "put 0;put 0;", 1);
        ran("0 2 2 9 : 2 0 0 : 0 0", "put 0;put 0;", 2);
        ran("0 2 2 9 : 2 0 0 : 0 0", "put 0;put 0;", 3);
        ran("3 1 1 9 : 1 0 0 : 0 0", "put 0;say 0;", 1);
        ran("1 2 1 0 : 1 0 0 : 0 0", "put 0;say 0;", 2);
        ran("3 1 1 9 : 1 0 0 : 0 0", "put 0;end;", 1);
        ran("0 2 1 9 : 1 0 0 : 0 0", "put 0;end;", 2);
        ran("3 1 1 9 : 1 0 0 : 0 0", "put 0;take 1;", 1);
        ran("2 1 1 9 : 1 0 0 : 0 0", "put 0;take 1;", 2);
        ran("0 1 3 9 : 0 0 0 : 0 0", "go 3;put 0;put 0;", 1);
        ran("3 3999 1 9 : 2000 0 0 : 0 0", "put 0;go 0;", 3999);
        ran("3 4000 0 9 : 2000 0 0 : 0 0", "put 0;go 0;", 4000);
        // 3 ACTS for each pebble and one more: 4,000 and 4,003
        ran("0 4000 3 9 : 0 0 0 : 0 0", "empty 0 3;take 0;go 0;", 4000, 1333);
        ran("3 4000 1 9 : 1 0 0 : 0 0", "empty 0 3;take 0;go 0;", 4000, 1334);
        ran("3 3999 0 9 : 0 0 0 : 0 0", "empty 0 3;take 0;go 0;", 3999, 1333);
    }

    /** "To put to one of 1,000,000,000" FAILS: "nothing of this ACT is done". */
    private static void heapFull() {
        ran("0 1 1 9 : 1000000000 0 0 : 0 0", "put 0;", 9, BILLION - 1);
        ran("2 0 0 9 : 1000000000 0 0 : 0 0", "put 0;", 9, BILLION);
        ran("2 1 1 9 : 1000000000 0 0 : 0 0", "put 0;put 0;", 9, BILLION - 1);
        ran("0 1 1 9 : 4 1000000000 0 : 0 0", "move 0 1;", 9, 5, BILLION - 1);
        ran("2 0 0 9 : 5 1000000000 0 : 0 0", "move 0 1;", 9, 5, BILLION);
        ran("2 0 0 9 : 1000000000 1000000000 0 : 0 0", "move 0 1;", 9, BILLION, BILLION);
        ran("2 0 0 9 : 0 1000000000 0 : 0 0", "move 0 1;", 9, 0, BILLION);
        ran("0 1 1 9 : 999999999 1 0 : 0 0", "move 0 1;", 9, BILLION, 0);
        ran("0 1 1 9 : 999999999 999999999 0 : 0 0", "pair 0 1;", 9, BILLION, BILLION);
    }

    /** "To take from an empty HEAP" FAILS, of move its first one, of pair either one. */
    private static void heapEmpty() {
        ran("0 1 1 9 : 0 0 0 : 0 0", "take 0;", 9, 1);
        ran("2 0 0 9 : 0 0 0 : 0 0", "take 0;", 9, 0);
        ran("2 1 1 9 : 0 0 0 : 0 0", "take 0;take 0;", 9, 1);
        ran("0 1 1 9 : 0 1 0 : 0 0", "move 0 1;", 9, 1);
        ran("2 0 0 9 : 0 1 0 : 0 0", "move 0 1;", 9, 0, 1);
        ran("0 1 1 9 : 0 0 0 : 0 0", "pair 0 1;", 9, 1, 1);
        ran("2 0 0 9 : 0 1 0 : 0 0", "pair 0 1;", 9, 0, 1);
        ran("2 0 0 9 : 1 0 0 : 0 0", "pair 0 1;", 9, 1, 0);
        ran("2 0 0 9 : 1 0 0 : 0 0", "pair 1 0;", 9, 1, 0);
        ran("2 0 0 9 : 0 0 0 : 0 0", "pair 1 0;", 9, 0, 0);
    }

    /** "Up at 3, down at 0" FAIL. */
    private static void placeEdges() {
        ran("0 1 1 9 : 0 0 0 : 1 0", "up 0;", 9, 0, 0, 0, 0, 0);
        ran("0 1 1 9 : 0 0 0 : 3 0", "up 0;", 9, 0, 0, 0, 2, 0);
        ran("2 0 0 9 : 0 0 0 : 3 0", "up 0;", 9, 0, 0, 0, 3, 0);
        ran("2 3 3 9 : 0 0 0 : 3 0", "up 0;up 0;up 0;up 0;", 9);
        ran("0 1 1 9 : 0 0 0 : 2 0", "down 0;", 9, 0, 0, 0, 3, 0);
        ran("0 1 1 9 : 0 0 0 : 0 0", "down 0;", 9, 0, 0, 0, 1, 0);
        ran("2 0 0 9 : 0 0 0 : 0 0", "down 0;", 9);
        ran("2 0 0 9 : 0 0 0 : 0 3", "up 1;", 9, 0, 0, 0, 0, 3);
        ran("2 1 1 9 : 0 0 0 : 0 0", "down 1;down 1;", 9, 0, 0, 0, 0, 1);
    }

    /** "If the HEAP is empty, the PLACE 0, or 3, on to ACT A; go: on to ACT A": A from 0 to as many as there are. */
    private static void jumpEdges() {
        ran("0 1 2 9 : 0 0 0 : 0 0", "empty 0 2;put 1;", 9);
        ran("0 2 2 9 : 1 1 0 : 0 0", "empty 0 2;put 1;", 9, 1);
        ran("0 2 2 9 : 1000000000 1 0 : 0 0", "empty 0 2;put 1;", 9, BILLION);
        ran("0 1 2 9 : 0 0 0 : 0 3", "none 0 2;put 1;", 9, 0, 0, 0, 0, 3);
        ran("0 2 2 9 : 0 1 0 : 1 0", "none 0 2;put 1;", 9, 0, 0, 0, 1, 0);
        ran("0 2 2 9 : 0 1 0 : 3 0", "none 0 2;put 1;", 9, 0, 0, 0, 3, 0);
        ran("0 1 2 9 : 0 0 0 : 3 0", "three 0 2;put 1;", 9, 0, 0, 0, 3, 0);
        ran("0 2 2 9 : 0 1 0 : 2 3", "three 0 2;put 1;", 9, 0, 0, 0, 2, 3);
        ran("0 2 2 9 : 0 1 0 : 0 3", "three 0 2;put 1;", 9, 0, 0, 0, 0, 3);
        ran("3 9 0 9 : 0 0 0 : 0 0", "empty 0 0;", 9);
        ran("3 9 0 9 : 0 0 0 : 0 0", "none 0 0;", 9);
        ran("3 9 0 9 : 0 0 0 : 3 0", "three 0 0;", 9, 0, 0, 0, 3, 0);
        ran("3 9 0 9 : 0 0 0 : 0 0", "go 0;", 9);
        ran("0 1 1 9 : 0 0 0 : 0 0", "go 1;", 9);
        ran("1 1 0 0 : 0 0 0 : 0 0", "say 0;put 0;", 9);
        ran("1 1 0 3 : 0 0 0 : 0 0", "say 3;put 0;", 9);
        ran("0 1 0 9 : 0 0 0 : 0 0", "end;put 0;", 9);
    }

    /** The last HEAP of 12 and the last PLACE of 24 are as all others in each ACT. */
    private static void lastOfAll() {
        String[] ways = {"put 11;", "take 11;", "move 11 0;", "move 0 11;", "pair 11 0;", "pair 0 11;",
            "empty 11 2;put 11;", "take 11;empty 11 3;put 0;", "up 23;", "down 23;", "none 23 2;up 23;",
            "down 23;none 23 3;put 0;", "three 23 2;up 23;", "up 23;three 23 2;", "up 23;up 23;three 23 4;put 0;"};
        String[] want = {"0 5 2 1", "0 5 0 1", "0 6 0 1", "0 4 2 1", "0 4 0 1", "0 4 0 1", "0 5 2 1", "0 5 0 1",
            "0 5 1 2", "0 5 1 0", "0 5 1 2", "0 5 1 0", "0 5 1 2", "0 5 1 2", "0 5 1 3"};
        for (int i = 0; i < ways.length; i++) {
            NothingAboveThree x = Check.in("heaps 12;places 24;pairs;moves;");
            x.heap(0, 5);
            x.heap(11, 1);
            x.place(23, 1);
            Check.way(x, ways[i]);
            Check.due(want[i], "promise 12: " + ways[i],
                    () -> x.run(0, 9) + " " + x.row(0) + " " + x.row(11) + " " + x.left(23));
            Check.due(1, "promise 16: " + ways[i], () -> x.on());
            Check.due(want[i].substring(2), "promise 16: what it left",
                    () -> x.heap(0, 0) + " " + x.heap(11, 0) + " " + x.place(23, 0));
        }
    }

    private static NothingAboveThree ran(String way, int... flock) {
        NothingAboveThree x = with(way, flock);
        x.run(0, 3);
        return x;
    }

    private static void ended(String want, String way, int... flock) {
        Twins.still(want, "promise 13: " + way, () -> ran(way, flock),
                x -> x.ends(0) + " " + x.ends(1) + " " + x.ends(2) + " " + x.ends(3));
    }

    /** Promise 13: "the ACT at which it stands (by which it ended, or FAILED; how many it has: behind the last)". */
    private static void ends() {
        ended("0 2 1 9", "put 0;end;put 0;");
        ended("1 2 1 2", "put 0;say 2;put 0;");
        ended("2 1 1 9", "put 0;take 1;put 0;");
        ended("0 2 2 9", "put 0;put 0;");
        ended("0 2 3 9", "put 0;go 3;put 0;");
        ended("3 3 3 9", "put 0;put 0;put 0;put 0;");
        ended("3 3 1 9", "put 0;go 0;");
        for (int what : new int[] {-1, 4, LEAST, MOST}) {
            Twins.refused(Check.ARGUMENT, "promise 13: what " + what, x -> x.ends(what));
            Twins.refused(Check.ARGUMENT, "promise 13: what, ahead of any", NothingAboveThree::new, x -> x.ends(what));
        }
    }

    /** Promises 14 and 15: behind the latest run(), not of THE FLOCK; "no such HEAP" also ahead of any. */
    private static void rowAndLeft() {
        int[] rows = {4, 2, 2};
        int[] lefts = {1, 3, 0};
        for (int i = 0; i < 3; i++) {
            int which = i;
            Twins.still(rows[i], "promise 14: " + i, x -> x.row(which));
            Twins.still(lefts[i], "promise 15: " + i, x -> x.left(which));
        }
        for (int which : new int[] {-1, 3, 12, 24, LEAST, MOST}) {
            Twins.refused(Check.ARGUMENT, "promise 14: HEAP " + which, x -> x.row(which));
            Twins.refused(Check.ARGUMENT, "promise 15: PLACE " + which, x -> x.left(which));
            Twins.refused(Check.ARGUMENT, "promise 14: ahead of any", NothingAboveThree::new, x -> x.row(which));
            Twins.refused(Check.ARGUMENT, "promise 15: ahead of any", NothingAboveThree::new, x -> x.left(which));
        }
    }

    private static String latest(NothingAboveThree x) {
        return x.ends(0) + " " + x.ends(1) + " " + x.ends(2) + " " + x.ends(3) + " : " + x.row(0) + " : " + x.left(0);
    }

    /** "NONE: ahead of any, or THE VALLEY was told since": of no other call. */
    private static void noLatestRun() {
        String none = "-1 -1 -1 -1 : -1 : -1";
        Twins.taken(none, "promise 13: ahead of any", () -> with("put 0;"), RunEdgesTest::latest);
        Twins.taken("1 3 2 2 : 4 : 1", "promise 13: of the latest", RunEdgesTest::latest);
        Twins.taken(none, "promise 13: the VALLEY was told since", Twins.sceneIn("places 1;"), RunEdgesTest::latest);
        Twins.Call[] others = {x -> x.way(0), x -> x.task(0), x -> x.valley(1), x -> x.heap(0, 1), x -> x.place(0, 2),
            x -> x.on(), x -> x.holds(0, 0), x -> x.image(), x -> x.right(0, 0, 3, 1), x -> x.least(0, 0, 1, 1),
            x -> x.kept(0, 0, 0, 1, 1), x -> x.cheat(0, 0, 0, 0), x -> x.soon(0, 0, 0), x -> x.hidden(0, 0, 0),
            x -> x.find(0, 1, 1, 1, 9, 0), x -> x.keep(1, 1, 1, 1, 99), x -> x.can(1, 0, 1), x -> x.why(1, 1),
            x -> Check.answer(() -> x.run(1, 1)), x -> Check.answer(() -> x.run(0, 0))};
        for (int i = 0; i < others.length; i++) {
            Twins.Call other = others[i];
            Twins.taken("1 3 2 2 : 4 : 1", "promise 13: behind another call, " + i, x -> {
                other.on(x);
                return latest(x);
            });
        }
        Twins.taken("0 2 2 9 : 2 : 2", "promise 13: the latest of two", x -> {
            x.run(0, 9);
            return latest(x);
        });
    }

    private static String flock(NothingAboveThree x) {
        return x.heap(0, 0) + " " + x.heap(1, 0) + " " + x.heap(2, 0) + " : " + x.place(0, 0) + " " + x.place(1, 0);
    }

    private static void on(String want, String way, int... flock) {
        Twins.taken("1 " + want, "promise 16: behind " + way, () -> ran(way, flock), x -> x.on() + " " + flock(x));
    }

    /** Promise 16: of a RUN that ended, FAILED, or has not ended; "0: there was none". */
    private static void on() {
        on("1 0 0 : 1 0", "put 0;up 0;");
        on("1 0 0 : 0 0", "put 0;take 1;");
        on("3 0 0 : 0 0", "put 0;put 0;put 0;put 0;");
        on("4 2 0 : 3 0", "put 0;say 2;", 3, 2, 0, 3, 0);
        Twins.still(0, "promise 16: there was none", () -> with("put 0;", 1, 2, 3, 1, 2), x -> x.on());
        Twins.still(0, "promise 16: THE VALLEY was told since", Twins.sceneIn("heaps 3;"), x -> x.on());
        Twins.taken("1 1 4 2 2 : 1 3", "promise 16: once more the same", x -> x.on() + " " + x.on() + " " + flock(x));
    }

    /** Promise 17: no such WAY, then no such TASK, then not ALLOWED. */
    private static void holds() {
        Twins.still(true, "promise 17: the first", x -> x.holds(0, 0));
        Twins.still(true, "promise 17: the last", x -> x.holds(2, 1));
        Twins.still(false, "promise 17: it does not", x -> x.holds(2, 0));
        for (int which : new int[] {-1, 3, 6, LEAST, MOST}) {
            Twins.refused(Check.INDEX, "promise 17: WAY " + which, x -> x.holds(which, 0));
            Twins.refused(Check.INDEX, "promise 17: WAY " + which + " ahead of TASK", x -> x.holds(which, 2));
        }
        for (int which : new int[] {-1, 2, 6, LEAST, MOST}) {
            Twins.refused(Check.ELEMENT, "promise 17: TASK " + which, x -> x.holds(0, which));
            Twins.refused(Check.ELEMENT, "promise 17: TASK " + which + " ahead of ALLOWED", x -> x.holds(1, which));
        }
        Twins.refused(Check.STATE, "promise 17: not ALLOWED", x -> x.holds(1, 0));
    }

    private static void held(boolean want, String way, String task, int... flock) {
        NothingAboveThree x = with(way, flock);
        Check.task(x, task);
        Check.due(want, "promise 17: " + way + " for " + task, () -> x.holds(0, 0));
    }

    /** Promise 17: "(2,000 ACTS)"; it HOLDS of what "ENDS by 0 or 1". */
    private static void holdsByActs() {
        // 3 ACTS for each pebble, and those around
        String loop = "empty 0 %d;take 0;go %d;";
        held(true, String.format(loop, 3, 0), "1=1;", 666);
        held(true, "go 1;" + String.format(loop, 4, 1), "1=1;", 666);
        held(false, "go 1;go 2;" + String.format(loop, 5, 2), "1=1;", 666);
        held(true, String.format(loop, 3, 0) + "say 1;", "said=1;", 666);
        held(false, "go 1;" + String.format(loop, 4, 1) + "say 1;", "said=1 or said=9;", 666);
        held(true, String.format(loop, 3, 0) + "end;", "1=1;", 666);
        held(false, "go 1;" + String.format(loop, 4, 1) + "end;", "1=1;", 666);
        held(false, "go 0;", "1=1;");
        held(false, "take 0;", "1=1;", 0);
        held(true, "take 0;", "1=1;", 1);
    }

    private static void isTrue(String task, int... flock) {
        held(true, "end;", task, flock);
        held(false, "end;", "not [" + task.substring(0, task.length() - 1) + "];", flock);
    }

    /** VALUES "of 32 bits that wrap; / cuts, by 0 it is 0"; what the VALLEY has not is 0; 9 without a word. */
    private static void values() {
        // 8,192 times 8,192 times 32 is 2 to the power of 31
        isTrue("8192*8192*31+(8192*8192-1)>0;");
        isTrue("8192*8192*31+8192*8192<0;");
        isTrue("8192*8192*32<0;");
        isTrue("8192*8192*32-1>0;");
        isTrue("8192*8192*32=0-8192*8192*32;");
        isTrue("8192*8192*64=0;");
        isTrue("8192*8192*64+5=5;");
        isTrue("8192*8192*32/(0-1)=8192*8192*32;");
        isTrue("8192*8192*32/(0-1)<0;");
        isTrue("(8192*8192*32-1)/(0-1)=8192*8192*32+1;");
        isTrue("was 0+was 0+was 0<0;", BILLION);
        isTrue("was 0*was 0/(1000*1000)=0-1486;", BILLION);
        isTrue("7/0=0;");
        isTrue("0/0=0;");
        isTrue("(0-7)/0=0;");
        isTrue("7/(1-1)=0;");
        isTrue("7/2=3;");
        isTrue("(0-7)/2=0-3;");
        isTrue("7/(0-2)=0-3;");
        isTrue("(0-7)/(0-2)=3;");
        isTrue("1/2=0;");
        isTrue("(0-1)/2=0;");
        isTrue("was 3=0;", 5, 5, 5);
        isTrue("now 11=0;", 5, 5, 5);
        isTrue("at 2=0;", 5, 5, 5, 3, 3);
        isTrue("at 23=0;", 5, 5, 5, 3, 3);
        isTrue("said=9;");
        isTrue("1<2;");
        isTrue("not 2<2;");
        isTrue("2>1;");
        isTrue("not 2>2;");
    }

    /** Each HEAP and PLACE by its own number, up to was 11, now 11 and at 23. */
    private static void lastValues() {
        for (int which = 0; which < 24; which++) {
            NothingAboveThree x = Check.in("heaps 12;places 24;");
            x.place(which, 2);
            if (which < 12) {
                x.heap(which, 7);
            }
            Check.way(x, which < 12 ? "take " + which + ";up " + which + ";" : "up " + which + ";");
            Check.task(x, "at " + which + "=3;");
            Check.due(true, "promise 17: at " + which, () -> x.holds(0, 0));
            if (which < 12) {
                Check.task(x, "was " + which + "=7 and now " + which + "=6;");
                Check.due(true, "promise 17: was and now " + which, () -> x.holds(0, 1));
            }
        }
    }

    /** Each sign beside each other one: * and / bind closest, then + and -, then R, not, and, or. */
    private static void signs() {
        isTrue("2<1+2;");
        isTrue("3>5-3;");
        isTrue("3=1+2;");
        isTrue("1+2<4;");
        isTrue("1<2*1;");
        isTrue("7-2-1=4;");
        isTrue("7-2+1=6;");
        isTrue("8/2/2=2;");
        isTrue("8/2*2=8;");
        isTrue("2*3/4=1;");
        isTrue("1+2*3=7;");
        isTrue("7-2*3=1;");
        isTrue("7-4/2=5;");
        isTrue("(7-4)/2=1;");
        isTrue("7-(4-2)=5;");
        isTrue("1=2 or 2=2;");
        isTrue("2=2 or 1=2;");
        isTrue("2=2 or 1=1 and 1=2;");
        isTrue("1=2 and 1=1 or 2=2;");
        isTrue("1=1 and not 1=2;");
        isTrue("1=1 and 2=2 and not not 3=3;");
        isTrue("not 1=2 and 1=1;");
        isTrue("not 1=2 or 1=2;");
        isTrue("not [1=2 or 1=2];");
        isTrue("[1=1 or 1=1] and [1=2 or 1=1];");
        for (String task : new String[] {"not 1<2;", "not 2>1;", "not 1=1;", "not 0<1;", "not 1>0;", "not 0=0;",
            "not 1=1 and 1=1;", "1=1 and 1=2;", "1=2 or 1=2;", "[2=2 or 1=1] and 1=2;", "1=1;1=2;1=1;", "1=2;1=1;"}) {
            held(false, "end;", task);
        }
    }

    /** "No such WAY", "no such TASK" with 6 of each there: the last is 5. */
    private static void sixThere() {
        Supplier<NothingAboveThree> six = () -> {
            NothingAboveThree x = new NothingAboveThree();
            for (int i = 0; i < 6; i++) {
                Check.way(x, "put 0;");
                Check.task(x, "now 0=" + i + ";");
            }
            x.heap(0, 4);
            return x;
        };
        Twins.still(true, "promise 17: the sixth of each", six, x -> x.holds(5, 5));
        Twins.taken(0, "promise 12: the sixth", six, x -> x.run(5, 1));
        Twins.still(-1, "promise 9: the sixth", six, x -> x.judge(5));
        Twins.refused(Check.INDEX, "promise 17: a seventh WAY", six, x -> x.holds(6, 5));
        Twins.refused(Check.ELEMENT, "promise 17: a seventh TASK", six, x -> x.holds(5, 6));
        Twins.refused(Check.INDEX, "promise 12: a seventh", six, x -> x.run(6, 1));
        Twins.refused(Check.INDEX, "promise 9: a seventh", six, x -> x.judge(6));
        Twins.refused(Check.ELEMENT, "promise 18: a seventh TASK", six, x -> x.right(5, 6, 1, 1));
        Twins.refused(Check.ELEMENT, "promise 20: a seventh TASK", six, x -> x.find(6, 1, 1, 1, 1, 0));
        Twins.refused(Check.ELEMENT, "promise 24: a seventh TASK", six, x -> x.cheat(5, 6, 0, 0));
        Twins.refused(Check.ELEMENT, "promise 40: a seventh TASK", six, x -> x.kept(5, 6, 0, 1, 1));
    }
}

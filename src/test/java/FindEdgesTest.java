import java.util.function.Supplier;

/**
 * Promises 20 to 23: each sentence that names an edge, on both sides of it, and all that is refused.
 * "By 60 ACTS" has no edge that can be seen: of all WAYS and FLOCKS that are tried the longest RUN that
 * ends has 28 ACTS.
 */
public final class FindEdgesTest {
    private static final int LEAST = Integer.MIN_VALUE;
    private static final int MOST = Integer.MAX_VALUE;

    /** find() or keep(), by its numbers but for what. */
    private interface Asked {
        Object of(NothingAboveThree x, int task, int m, int n, int acts, int most);
    }

    private static final Asked[] BOTH = {(x, task, m, n, acts, most) -> x.find(task, m, n, acts, most, 0),
        (x, task, m, n, acts, most) -> x.keep(task, m, n, acts, most)};
    private static final String[] NAMES = {"promise 20", "promise 21"};

    public static void main(String[] args) {
        for (int i = 0; i < BOTH.length; i++) {
            noSuchTask(NAMES[i], BOTH[i]);
            ranges(NAMES[i], BOTH[i]);
            heapsAndMind(NAMES[i], BOTH[i]);
        }
        what();
        tried();
        rivals();
        letters();
        kept();
        canRefused();
        can();
        whyRefused();
        why();
        Check.end();
    }

    /** "NoSuchElementException: no such TASK", ahead of all others. */
    private static void noSuchTask(String name, Asked call) {
        for (int task : new int[] {-1, 2, 6, LEAST, MOST}) {
            Twins.refused(Check.ELEMENT, name + ": TASK " + task, x -> call.of(x, task, 1, 1, 1, 1));
            Twins.refused(Check.ELEMENT, name + ": TASK " + task + " ahead of all", x -> call.of(x, task, 0, -1, 0, 0));
        }
        Twins.refused(Check.ELEMENT, name + ": of none", NothingAboveThree::new, x -> call.of(x, 0, 1, 1, 1, 1));
        Twins.taken(true, name + ": the last TASK", x -> (int) call.of(x, 1, 1, 1, 1, 1) < 1);
    }

    /** "M 1 or 2, n 0 to 3", L 1 to 3, "so many tried (1 to 20,000)". */
    private static void ranges(String name, Asked call) {
        for (int m : new int[] {-1, 0, 3, LEAST, MOST}) {
            Twins.refused(Check.ARGUMENT, name + ": m " + m, x -> call.of(x, 0, m, 1, 1, 1));
        }
        for (int n : new int[] {-1, 4, 9, LEAST, MOST}) {
            Twins.refused(Check.ARGUMENT, name + ": n " + n, x -> call.of(x, 0, 1, n, 1, 1));
        }
        for (int acts : new int[] {-1, 0, 4, LEAST, MOST}) {
            Twins.refused(Check.ARGUMENT, name + ": L " + acts, x -> call.of(x, 0, 1, 1, acts, 1));
        }
        for (int most : new int[] {-1, 0, 20001, LEAST, MOST}) {
            Twins.refused(Check.ARGUMENT, name + ": so many " + most, x -> call.of(x, 0, 1, 1, 1, most));
        }
        for (int[] taken : new int[][] {{1, 0, 1, 1}, {2, 0, 1, 1}, {1, 3, 1, 1}, {2, 3, 3, 20000}, {1, 0, 3, 1},
            {1, 0, 1, 20000}}) {
            Twins.taken(true, name + ": the last that are taken",
                    x -> (int) call.of(x, 0, taken[0], taken[1], taken[2], taken[3]) < 4);
        }
    }

    /** "M (also above heaps)", and L "no more than mind". */
    private static void heapsAndMind(String name, Asked call) {
        Supplier<NothingAboveThree> one = Twins.sceneIn("heaps 1;mind 1;");
        Twins.taken(true, name + ": m 1 of 1", one, x -> (int) call.of(x, 0, 1, 1, 1, 99) < 4);
        Twins.refused(Check.ARGUMENT, name + ": m 2 of 1", one, x -> call.of(x, 0, 2, 1, 1, 99));
        Twins.refused(Check.ARGUMENT, name + ": L 2, mind 1", one, x -> call.of(x, 0, 1, 1, 2, 99));
        Twins.refused(Check.ARGUMENT, name + ": L 3, mind 1", one, x -> call.of(x, 0, 1, 1, 3, 99));
        Supplier<NothingAboveThree> two = Twins.sceneIn("heaps 2;mind 2;");
        Twins.taken(true, name + ": m 2 of 2, L 2, mind 2", two, x -> (int) call.of(x, 0, 2, 1, 2, 99) < 4);
        Twins.refused(Check.ARGUMENT, name + ": m 3 of 2", two, x -> call.of(x, 0, 3, 1, 1, 99));
        Twins.refused(Check.ARGUMENT, name + ": L 3, mind 2", two, x -> call.of(x, 0, 1, 1, 3, 99));
        Supplier<NothingAboveThree> three = Twins.sceneIn("heaps 3;mind 3;");
        Twins.taken(true, name + ": L 3, mind 3", three, x -> (int) call.of(x, 0, 2, 1, 3, 99) < 4);
        Twins.refused(Check.ARGUMENT, name + ": m 3 of 3", three, x -> call.of(x, 0, 3, 1, 1, 99));
        Twins.refused(Check.ARGUMENT, name + ": L 4, mind 24", Twins.sceneIn(""), x -> call.of(x, 0, 1, 1, 4, 99));
    }

    private static Supplier<NothingAboveThree> with(String valley, String... tasks) {
        return () -> {
            NothingAboveThree x = Check.in(valley);
            for (String task : tasks) {
                Check.task(x, task);
            }
            return x;
        };
    }

    private static String found(NothingAboveThree x, int task, int m, int n, int acts, int most) {
        StringBuilder text = new StringBuilder();
        for (int what = 0; what < 6; what++) {
            text.append(what == 0 ? "" : " ").append(x.find(task, m, n, acts, most, what));
        }
        return text.toString();
    }

    /** Promise 20: "what"; "NONE: none is found (1: all that were tried), or no such ACT". */
    private static void what() {
        for (int what : new int[] {-1, 6, LEAST, MOST}) {
            Twins.refused(Check.ARGUMENT, "promise 20: what " + what, x -> x.find(0, 1, 1, 1, 1, what));
        }
        // put, take, two empty, two go, two say, end: 9 of one ACT; 11 ACTS for two, 13 for three
        Supplier<NothingAboveThree> x = with("heaps 1;words 1;", "now 0=was 0+1;", "now 0=was 0+2;",
                "now 0=was 0+3;", "now 0=was 0+4;");
        Twins.still("1 1 1 0 -1 -1", "promise 20: of one ACT", x, y -> found(y, 0, 1, 1, 3, 20000));
        Twins.still("2 10 1 0 0 -1", "promise 20: of two", x, y -> found(y, 1, 1, 1, 3, 20000));
        Twins.still("3 131 1 0 0 0", "promise 20: of three", x, y -> found(y, 2, 1, 1, 3, 20000));
        Twins.still("-1 2327 -1 -1 -1 -1", "promise 20: none", x, y -> found(y, 3, 1, 1, 3, 20000));
        Twins.still("-1 130 -1 -1 -1 -1", "promise 20: none of two", x, y -> found(y, 2, 1, 1, 2, 20000));
        Twins.still("-1 9 -1 -1 -1 -1", "promise 20: none of one", x, y -> found(y, 1, 1, 1, 1, 20000));
    }

    /** FIND: "of at most so many tried". */
    private static void tried() {
        Supplier<NothingAboveThree> x = with("heaps 1;words 1;", "now 0=was 0+2;", "said=1;", "1=2;", "now 0=was 0+3;");
        Twins.still("2 10 1 0 0 -1", "promise 20: just so many", x, y -> found(y, 0, 1, 1, 3, 10));
        Twins.still("-1 9 -1 -1 -1 -1", "promise 20: one too few", x, y -> found(y, 0, 1, 1, 3, 9));
        Twins.still("1 8 1 7 -1 -1", "promise 20: just so many", x, y -> found(y, 1, 1, 1, 1, 8));
        Twins.still("-1 7 -1 -1 -1 -1", "promise 20: one too few", x, y -> found(y, 1, 1, 1, 1, 7));
        Twins.still("3 131 1 0 0 0", "promise 20: just so many", x, y -> found(y, 3, 1, 1, 3, 131));
        Twins.still("-1 130 -1 -1 -1 -1", "promise 20: one too few", x, y -> found(y, 3, 1, 1, 3, 130));
        Twins.still("-1 1 -1 -1 -1 -1", "promise 20: 1", x, y -> found(y, 2, 1, 1, 3, 1));
        Twins.still("-1 2326 -1 -1 -1 -1", "promise 20: all but one", x, y -> found(y, 2, 1, 1, 3, 2326));
        Twins.still("-1 2327 -1 -1 -1 -1", "promise 20: just all", x, y -> found(y, 2, 1, 1, 3, 2327));
        Twins.still("-1 2327 -1 -1 -1 -1", "promise 20: more than all", x, y -> found(y, 2, 1, 1, 3, 2328));
        Twins.still("-1 20000 -1 -1 -1 -1", "promise 20: more than 20,000", with("heaps 3;moves;pairs;", "1=2;"),
                y -> found(y, 0, 2, 3, 3, 20000));
    }

    /** RIVALS: "how many of its length do so, of those tried (at most so many in all)". */
    private static void rivals() {
        // of one ACT: empty 0 1 is the 4th, go 1 the 6th, end the 9th
        Supplier<NothingAboveThree> x = with("heaps 1;words 1;", "now 0=was 0 and said=9;", "1=1;");
        int[] rivals = {1, 1, 2, 2, 2, 3, 3, 3};
        for (int most = 4; most < 12; most++) {
            int so = most;
            String want = "1 4 " + rivals[most - 4] + " 3 -1 -1";
            Twins.still(want, "promise 20: rivals of " + most, x, y -> found(y, 0, 1, 1, 1, so));
            Twins.still(want, "promise 20: of its length, of " + most, x, y -> found(y, 0, 1, 1, 3, so));
        }
        // of two HEAPS: put 0, take 0, put 1, take 1, six empty, three go, say 0, end: 15 ACTS for two, 12 for one
        Supplier<NothingAboveThree> two = with("heaps 2;words 0;", "now 0=was 0+1;now 1=was 1+1;");
        Twins.still("2 15 2 0 2 -1", "promise 20: put 0 and put 1 either way round", two, y -> found(y, 0, 2, 1, 2, 20000));
        Twins.still("2 15 1 0 2 -1", "promise 20: of all but it", two, y -> found(y, 0, 2, 1, 2, 12 + 30));
        Twins.still("2 15 2 0 2 -1", "promise 20: just it", two, y -> found(y, 0, 2, 1, 2, 12 + 31));
        Twins.still("-1 3 -1 -1 -1 -1", "promise 20: none of 3", x, y -> found(y, 0, 1, 1, 3, 3));
        // put, empty 0 1, go 1, say 0, say 1, end; take FAILS of an empty HEAP, empty 0 0 and go 0 go round
        Twins.still("1 1 6 0 -1 -1", "promise 20: of an empty HEAP", x, y -> found(y, 1, 1, 0, 1, 20000));
    }

    /** TRIED: the ACTS "of the first 3" HEAPS "at most", "(if allowed)", "A: 0 to the length". */
    private static void letters() {
        int[][] want = {{1, 9, 11, 13}, {2, 13, 16, 19}, {3, 17, 21, 25}, {4, 17, 21, 25}, {12, 17, 21, 25}};
        int[] moves = {0, 2, 6, 6, 6};
        int[] pairs = {0, 1, 3, 3, 3};
        for (int i = 0; i < want.length; i++) {
            String valley = "heaps " + want[i][0] + ";words 1;";
            all(valley, want[i], 0);
            all(valley + "moves;", want[i], moves[i]);
            all(valley + "pairs;", want[i], pairs[i]);
            all(valley + "moves;pairs;", want[i], moves[i] + pairs[i]);
        }
        for (int words = 0; words <= 3; words++) {
            all("heaps 1;words " + words + ";", new int[] {1, 8 + words, 10 + words, 12 + words}, 0);
        }
    }

    /** All that are tried of one ACT, of two, of three: by how many ACTS there are. */
    private static void all(String valley, int[] acts, int more) {
        int one = acts[1] + more;
        int two = one + (acts[2] + more) * (acts[2] + more);
        int three = Math.min(20000, two + (acts[3] + more) * (acts[3] + more) * (acts[3] + more));
        Supplier<NothingAboveThree> scene = with(valley, "1=2;");
        Twins.taken(one + " " + two + " " + three, "promise 20: all in " + valley, scene,
                x -> x.find(0, 1, 0, 1, 20000, 1) + " " + x.find(0, 1, 0, 2, 20000, 1) + " "
                        + x.find(0, 1, 0, 3, 20000, 1));
    }

    /** Promise 21: "its number; -1: there are 6; -2: none is found". */
    private static void kept() {
        Twins.taken("3 4", "promise 21: the next number", x -> x.keep(1, 1, 1, 1, 20000) + " " + x.count(0));
        Twins.still(-2, "promise 21: none is found", x -> x.keep(0, 1, 1, 3, 1));
        Twins.still(-2, "promise 21: of none", with("", "1=2;"), x -> x.keep(0, 1, 0, 1, 20000));
        Twins.taken(0, "promise 21: the first", with("", "1=1;"), x -> x.keep(0, 1, 0, 1, 1));
        Twins.taken(5, "promise 21: the sixth", () -> shelved(5), x -> x.keep(0, 1, 0, 1, 1));
        Twins.still(-1, "promise 21: there are 6", () -> shelved(6), x -> x.keep(0, 1, 0, 1, 1));
        Twins.still(-1, "promise 21: there are 6, none is found", () -> shelved(6), x -> x.keep(1, 1, 0, 1, 1));
        Twins.refused(Check.ARGUMENT, "promise 21: with 6 there", () -> shelved(6), x -> x.keep(0, 0, 0, 1, 1));
        Twins.refused(Check.ELEMENT, "promise 21: with 6 there", () -> shelved(6), x -> x.keep(2, 1, 0, 1, 1));
        Twins.taken("4 0 3 : 1 0 -1 : 9 0 -1", "promise 21: its ACTS", with("heaps 1;", "now 0=0 and said=9;"), x -> {
            x.keep(0, 1, 3, 3, 20000);
            return acts(x, 0) + " : " + acts(x, 1) + " : " + acts(x, 2);
        });
        Twins.taken(Check.ELEMENT, "promise 21: as many as were found", with("heaps 1;", "now 0=0 and said=9;"), x -> {
            x.keep(0, 1, 3, 3, 20000);
            return x.act(0, 3, 0);
        });
    }

    private static String acts(NothingAboveThree x, int k) {
        return x.act(0, k, 0) + " " + x.act(0, k, 1) + " " + x.act(0, k, 2);
    }

    private static NothingAboveThree shelved(int ways) {
        NothingAboveThree x = with("", "1=1;", "1=2;").get();
        for (int i = 0; i < ways; i++) {
            Check.way(x, "end;");
        }
        return x;
    }

    /** Promise 22: "IllegalArgumentException: L, a, b" (0 to 9). */
    private static void canRefused() {
        for (int acts : new int[] {-1, 0, 4, LEAST, MOST}) {
            Twins.refused(Check.ARGUMENT, "promise 22: L " + acts, x -> x.can(acts, 0, 1));
        }
        for (int number : new int[] {-1, 10, LEAST, MOST}) {
            Twins.refused(Check.ARGUMENT, "promise 22: a " + number, x -> x.can(1, number, 1));
            Twins.refused(Check.ARGUMENT, "promise 22: b " + number, x -> x.can(1, 1, number));
        }
        for (int mind = 1; mind <= 3; mind++) {
            Supplier<NothingAboveThree> scene = Twins.sceneIn("mind " + mind + ";");
            for (int acts = 1; acts <= 3; acts++) {
                int most = acts;
                if (acts <= mind) {
                    Twins.still(true, "promise 22: L " + acts + ", mind " + mind, scene, x -> x.can(most, 0, 1));
                    Twins.still(-1, "promise 23: L " + acts + ", mind " + mind, scene, x -> x.why(most, 1));
                } else {
                    Twins.refused(Check.ARGUMENT, "promise 22: L " + acts + ", mind " + mind, scene,
                            x -> x.can(most, 0, 1));
                    Twins.refused(Check.ARGUMENT, "promise 23: L " + acts + ", mind " + mind, scene,
                            x -> x.why(most, 1));
                }
            }
        }
    }

    /** TOLD APART by WAYS of at most L ACTS: L of them tell numbers below L from all others. */
    private static void can() {
        for (int acts = 1; acts <= 3; acts++) {
            for (int a = 0; a <= 9; a++) {
                for (int b = 0; b <= 9; b++) {
                    int most = acts;
                    int one = a;
                    int other = b;
                    boolean apart = a != b && Math.min(a, b) < acts;
                    Twins.taken(apart, "promise 22: " + a + " and " + b + " by " + acts, Twins::scene,
                            x -> x.can(most, one, other));
                }
            }
        }
        Twins.still(true, "promise 22: of 0 and 9", x -> x.can(1, 0, 9));
        Twins.still(false, "promise 22: of 9 and 9", x -> x.can(3, 9, 9));
        Twins.still(false, "promise 22: of 3 and 9", x -> x.can(3, 3, 9));
    }

    /** Promise 23: L, and n (1 to 6). */
    private static void whyRefused() {
        for (int acts : new int[] {-1, 0, 4, LEAST, MOST}) {
            Twins.refused(Check.ARGUMENT, "promise 23: L " + acts, x -> x.why(acts, 1));
        }
        for (int n : new int[] {-1, 0, 7, LEAST, MOST}) {
            Twins.refused(Check.ARGUMENT, "promise 23: n " + n, x -> x.why(1, n));
        }
    }

    /** Promise 23: "10 times a and b; NONE: all are TOLD APART". */
    private static void why() {
        int[][] want = {{-1, 12, 12, 12, 12, 12}, {-1, -1, 23, 23, 23, 23}, {-1, -1, -1, 34, 34, 34}};
        for (int acts = 1; acts <= 3; acts++) {
            for (int n = 1; n <= 6; n++) {
                int most = acts;
                int to = n;
                Twins.still(want[acts - 1][n - 1], "promise 23: to " + n + " by " + acts, x -> x.why(most, to));
            }
        }
    }
}

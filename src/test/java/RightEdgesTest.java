import java.util.function.Supplier;

/** Promises 18, 19 and 40: each sentence that names an edge, on both sides of it, and all that is refused. */
public final class RightEdgesTest {
    private static final int LEAST = Integer.MIN_VALUE;
    private static final int MOST = Integer.MAX_VALUE;

    /** A call of right(), least() or kept() of one WAY and TASK. */
    private interface Asked {
        Object of(NothingAboveThree x, int way, int task, int m, int n);
    }

    private static final Asked[] ALL = {(x, way, task, m, n) -> x.right(way, task, m, n),
        (x, way, task, m, n) -> x.least(way, task, m, n), (x, way, task, m, n) -> x.kept(way, task, 0, m, n)};
    private static final String[] NAMES = {"promise 18", "promise 19", "promise 40"};

    public static void main(String[] args) {
        for (int i = 0; i < ALL.length; i++) {
            noSuch(NAMES[i], ALL[i]);
            ranges(NAMES[i], ALL[i]);
            aboveHeaps(NAMES[i], ALL[i]);
        }
        counts();
        numbers();
        byActs();
        nothingElse();
        keptActs();
        keptComes();
        keptByActs();
        Check.end();
    }

    /** "No such WAY", then "no such TASK", then m and n, then "not ALLOWED". */
    private static void noSuch(String name, Asked call) {
        for (int way : new int[] {-1, 3, 6, LEAST, MOST}) {
            Twins.refused(Check.INDEX, name + ": WAY " + way, x -> call.of(x, way, 0, 1, 1));
            Twins.refused(Check.INDEX, name + ": WAY " + way + " ahead of all", x -> call.of(x, way, 2, 0, -1));
        }
        for (int task : new int[] {-1, 2, 6, LEAST, MOST}) {
            Twins.refused(Check.ELEMENT, name + ": TASK " + task, x -> call.of(x, 0, task, 1, 1));
            Twins.refused(Check.ELEMENT, name + ": TASK " + task + " ahead of m", x -> call.of(x, 1, task, 0, -1));
        }
        Twins.refused(Check.STATE, name + ": not ALLOWED", x -> call.of(x, 1, 0, 1, 1));
        Twins.refused(Check.STATE, name + ": not ALLOWED", x -> call.of(x, 1, 1, 3, 9));
    }

    /** "M (1 to 3), n (0 to 9)". */
    private static void ranges(String name, Asked call) {
        for (int m : new int[] {-1, 0, 4, LEAST, MOST}) {
            Twins.refused(Check.ARGUMENT, name + ": m " + m, x -> call.of(x, 0, 0, m, 1));
            Twins.refused(Check.ARGUMENT, name + ": m " + m + " ahead of ALLOWED", x -> call.of(x, 1, 0, m, 1));
        }
        for (int n : new int[] {-1, 10, LEAST, MOST}) {
            Twins.refused(Check.ARGUMENT, name + ": n " + n, x -> call.of(x, 0, 0, 1, n));
            Twins.refused(Check.ARGUMENT, name + ": n " + n + " ahead of ALLOWED", x -> call.of(x, 1, 0, 1, n));
        }
    }

    /** "M (also above heaps)". */
    private static void aboveHeaps(String name, Asked call) {
        for (int heaps : new int[] {1, 2, 3, 12}) {
            Supplier<NothingAboveThree> scene = Twins.sceneIn("heaps " + heaps + ";places 3;");
            for (int m = 1; m <= 4; m++) {
                int first = m;
                if (m > 3 || m > heaps) {
                    Twins.refused(Check.ARGUMENT, name + ": m " + m + " of " + heaps, scene,
                            x -> call.of(x, 0, 0, first, 1));
                } else {
                    Twins.taken(true, name + ": m " + m + " of " + heaps, scene,
                            x -> (int) call.of(x, 0, 0, first, 1) < 9);
                }
            }
        }
    }

    private static void still(Object want, String what, Twins.Call call) {
        Twins.still(want, what, call);
    }

    /** Promise 18: RIGHT, "of how many": from none to all, by the least and the greatest m and n. */
    private static void counts() {
        // WAY 0 takes one: it FAILS of an empty HEAP 0
        still(0, "promise 18: m 1, n 0", x -> x.right(0, 0, 1, 0));
        still(1, "promise 18: m 1, n 1", x -> x.right(0, 0, 1, 1));
        still(9, "promise 18: m 1, n 9", x -> x.right(0, 0, 1, 9));
        still(0, "promise 18: m 3, n 0", x -> x.right(0, 0, 3, 0));
        still(900, "promise 18: m 3, n 9", x -> x.right(0, 0, 3, 9));
        still(90, "promise 18: m 2, n 9", x -> x.right(0, 0, 2, 9));
        still(1, "promise 18: all, n 0", x -> x.right(2, 1, 1, 0));
        still(1000, "promise 18: all, n 9", x -> x.right(2, 1, 3, 9));
        still(0, "promise 18: of none", x -> x.right(2, 0, 3, 9));
    }

    /** Promise 19: "the least FLOCK of which it does not" (its number: HEAP 0 the highest digit); "NONE: there is none". */
    private static void numbers() {
        still(0, "promise 19: m 1, n 0", x -> x.least(0, 0, 1, 0));
        still(-1, "promise 19: NONE", x -> x.least(2, 1, 1, 0));
        still(-1, "promise 19: NONE", x -> x.least(2, 1, 3, 9));
        for (int number : new int[] {0, 1, 9, 10, 90, 99, 100, 109, 900, 990, 998, 999}) {
            Supplier<NothingAboveThree> scene = () -> broken(number);
            Twins.still(number, "promise 19: " + number, scene, x -> x.least(0, 0, 3, 9));
            Twins.still(999, "promise 18: but " + number, scene, x -> x.right(0, 0, 3, 9));
            Twins.still(number, "promise 40: " + number, scene, x -> x.kept(0, 0, 0, 3, 9));
            Twins.still(number, "promise 19: the least of two", () -> broken(999, number), x -> x.least(0, 0, 3, 9));
        }
        Twins.still(5, "promise 19: of one HEAP", () -> broken(500), x -> x.least(0, 0, 1, 9));
        Twins.still(50, "promise 19: of two", () -> broken(500), x -> x.least(0, 0, 2, 9));
        Twins.still(-1, "promise 19: n is one too few", () -> broken(500), x -> x.least(0, 0, 1, 4));
        Twins.still(5, "promise 19: n is just enough", () -> broken(500), x -> x.least(0, 0, 1, 5));
    }

    /** An object whose TASK does not HOLD of FLOCKS of some numbers. */
    private static NothingAboveThree broken(int... numbers) {
        NothingAboveThree x = Check.in("heaps 3;");
        Check.way(x, "end;");
        StringBuilder task = new StringBuilder();
        for (int number : numbers) {
            task.append("not was 0*100+was 1*10+was 2=").append(number).append(';');
        }
        Check.task(x, task.toString());
        return x;
    }

    /** RIGHT: "by 2,000 ACTS": of 476 the WAY ends by just so many, and by one ACT more ahead of it too late. */
    private static void byActs() {
        String rest = "empty 0 23;take 0;empty 1 7;take 1;put 2;put 2;go 2;empty 2 11;take 2;put 1;go 7;";
        StringBuilder just = new StringBuilder(rest);
        for (int k = 12; k <= 22; k++) {
            just.append("go ").append(k).append(';');
        }
        just.append("go 0;");
        StringBuilder late = new StringBuilder("go 1;empty 0 24;take 0;empty 1 8;take 1;put 2;put 2;go 3;empty 2 12;take 2;"
                + "put 1;go 8;");
        for (int k = 13; k <= 23; k++) {
            late.append("go ").append(k).append(';');
        }
        late.append("go 1;");
        NothingAboveThree x = Check.in("heaps 3;");
        Check.way(x, just.toString());
        Check.way(x, late.toString());
        Check.task(x, "1=1;");
        x.heap(0, 4);
        x.heap(1, 7);
        x.heap(2, 6);
        Check.due(0, "it ends", () -> x.run(0, 4000));
        Check.due(2000, "by 2,000 ACTS", () -> x.ends(1));
        Check.due(0, "it ends", () -> x.run(1, 4000));
        Check.due(2001, "by 2,001 ACTS", () -> x.ends(1));
        Check.due(true, "promise 17: by 2,000", () -> x.holds(0, 0));
        Check.due(false, "promise 17: by 2,001", () -> x.holds(1, 0));
        Check.due(528, "promise 18: by 2,000 ACTS", () -> x.right(0, 0, 3, 9));
        Check.due(527, "promise 18: by 2,000 ACTS", () -> x.right(1, 0, 3, 9));
        Check.due(477, "promise 19: by 2,000 ACTS", () -> x.least(0, 0, 3, 7));
        Check.due(476, "promise 19: by 2,000 ACTS", () -> x.least(1, 0, 3, 7));
    }

    /** RIGHT: "0 to n in each of the first m HEAPS .. and nothing else": THE FLOCK does not count. */
    private static void nothingElse() {
        NothingAboveThree x = Check.in("heaps 12;places 24;");
        Check.way(x, "end;");
        StringBuilder sum = new StringBuilder("0");
        for (int h = 0; h < 12; h++) {
            x.heap(h, 9);
            sum.append(h < 3 ? "" : "+was " + h + "+now " + h);
        }
        for (int p = 0; p < 24; p++) {
            x.place(p, 3);
            sum.append("+at ").append(p);
        }
        Check.task(x, sum + "=0;");
        Check.task(x, "was 1+was 2=0;");
        Check.due(1000, "promise 18: nothing else", () -> x.right(0, 0, 3, 9));
        Check.due(-1, "promise 19: nothing else", () -> x.least(0, 0, 3, 9));
        Check.due(-1, "promise 40: nothing else", () -> x.kept(0, 0, 0, 3, 9));
        Check.due(10, "promise 18: beyond m", () -> x.right(0, 1, 1, 9));
        Check.due(10, "promise 18: within m", () -> x.right(0, 1, 2, 9));
        Check.due(10, "promise 18: within m", () -> x.right(0, 1, 3, 9));
        Check.due(1, "promise 19: within m", () -> x.least(0, 1, 3, 1));
    }

    /** Promise 40: "no such TASK, then no such ACT (how many it has may be told)", ahead of m and n. */
    private static void keptActs() {
        still(0, "promise 40: ACT 0", x -> x.kept(0, 1, 0, 1, 1));
        still(1, "promise 40: the last ACT", x -> x.kept(0, 1, 1, 1, 1));
        still(1, "promise 40: as many as it has", x -> x.kept(0, 1, 2, 1, 1));
        still(-1, "promise 40: as many as it has", x -> x.kept(0, 0, 2, 1, 1));
        still(-1, "promise 40: as many as it has, by say", x -> x.kept(2, 1, 3, 1, 1));
        for (int k : new int[] {-1, 3, 24, LEAST, MOST}) {
            Twins.refused(Check.ELEMENT, "promise 40: ACT " + k, x -> x.kept(0, 0, k, 1, 1));
            Twins.refused(Check.ELEMENT, "promise 40: ACT " + k + " ahead of m", x -> x.kept(0, 0, k, 0, -1));
            Twins.refused(Check.ELEMENT, "promise 40: TASK ahead of ACT " + k, x -> x.kept(0, 2, k, 1, 1));
            Twins.refused(Check.INDEX, "promise 40: WAY ahead of ACT " + k, x -> x.kept(3, 0, k, 1, 1));
        }
        Twins.refused(Check.ELEMENT, "promise 40: of a WAY of one, ahead of ALLOWED", x -> x.kept(1, 0, 2, 1, 1));
        Twins.refused(Check.STATE, "promise 40: as many as it has, not ALLOWED", x -> x.kept(1, 0, 1, 1, 1));
    }

    private static void kept(int want, String way, String task, int k) {
        NothingAboveThree x = Check.in("heaps 3;places 1;");
        Check.way(x, way);
        Check.task(x, task);
        Check.due(want, "promise 40: " + task + " at " + k + " of " + way, () -> x.kept(0, 0, k, 1, 2));
    }

    /** KEPT "each time a RUN comes to that ACT (or, of as many as it has, behind the last)"; said: 9. */
    private static void keptComes() {
        kept(0, "put 0;", "1=2;", 0);
        kept(0, "put 0;", "1=2;", 1);
        kept(0, "end;", "1=2;", 0);
        kept(-1, "end;", "1=2;", 1);
        kept(0, "say 1;", "1=2;", 0);
        kept(-1, "say 1;", "1=2;", 1);
        kept(-1, "say 1;", "said=9;", 0);
        kept(0, "take 0;", "1=2;", 0);
        kept(1, "take 0;", "1=2;", 1);
        kept(0, "go 2;put 0;", "1=2;", 2);
        kept(-1, "go 2;put 0;", "1=2;", 1);
        kept(0, "go 1;put 0;", "1=2;", 1);
        kept(1, "put 1;", "was 0=now 0-now 1+1 and was 0<1;", 1);
        kept(0, "put 0;", "now 0=was 0;", 1);
        kept(-1, "put 0;", "now 0=was 0;", 0);
        kept(-1, "put 0;up 0;", "at 0=0;", 1);
        kept(0, "put 0;up 0;", "at 0=0;", 2);
        kept(2, "empty 0 3;take 0;go 0;", "now 0<2;", 0);
        kept(-1, "empty 0 3;take 0;go 0;", "now 0<2;", 2);
        kept(1, "empty 0 3;take 0;go 0;", "now 0=was 0;", 0);
        kept(-1, "empty 0 3;take 0;go 0;", "now 0=0;", 3);
        kept(-1, "put 0;put 0;", "1=1;1=1 or 1=2;", 1);
        kept(0, "put 0;put 0;", "1=1;1=2;", 1);
    }

    /** KEPT in a RUN of "2,000 ACTS", "behind the 2,000th ACT, too". */
    private static void keptByActs() {
        // behind 2,000 ACTS HEAP 0 has 1,000 more at ACT 0; behind 2,001 it would have 1,001 more at ACT 1
        kept(0, "put 0;go 0;", "now 0-was 0<1000;", 0);
        kept(-1, "put 0;go 0;", "now 0-was 0<1001;", 0);
        kept(0, "put 0;go 0;", "now 0-was 0<1000;", 1);
        kept(-1, "put 0;go 0;", "now 0-was 0<1001;", 1);
        // one ACT ahead of the loop: behind the 2,000th it is at ACT 2, and HEAP 0 has 1,000 more
        kept(0, "go 1;put 0;go 1;", "now 0-was 0<1000;", 2);
        kept(-1, "go 1;put 0;go 1;", "now 0-was 0<1001;", 2);
        kept(-1, "go 1;put 0;go 1;", "now 0-was 0<1000;", 1);
        // 666 times 3 ACTS and two more: behind the 2,000th it is at ACT 2 for the 667th time
        kept(0, "put 0;put 1;go 0;", "now 1<666;", 0);
        kept(-1, "put 0;put 1;go 0;", "now 1<667;", 0);
        kept(0, "put 0;put 1;go 0;", "now 0-was 0<667;", 1);
        kept(0, "put 0;put 1;go 0;", "now 1<667;", 2);
        kept(-1, "put 0;put 1;go 0;", "now 1<668;", 2);
    }
}

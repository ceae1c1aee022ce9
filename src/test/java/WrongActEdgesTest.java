import java.util.function.Supplier;

/** Promises 24 to 26: each sentence that names an edge, on both sides of it, and all that is refused. */
public final class WrongActEdgesTest {
    private static final int LEAST = Integer.MIN_VALUE;
    private static final int MOST = Integer.MAX_VALUE;

    public static void main(String[] args) {
        noSuch();
        how();
        notAllowed();
        which();
        ofNone();
        ofRunsThatFail();
        byActs();
        leftOut();
        doneTwice();
        sooner();
        hidden();
        Check.end();
    }

    /** "No such WAY", then "no such TASK", ahead of how and k. */
    private static void noSuch() {
        for (int way : new int[] {-1, 3, 6, LEAST, MOST}) {
            Twins.refused(Check.INDEX, "promise 24: WAY " + way, x -> x.cheat(way, 0, 0, 0));
            Twins.refused(Check.INDEX, "promise 24: WAY " + way + " ahead of all", x -> x.cheat(way, 2, -1, 2));
            Twins.refused(Check.INDEX, "promise 25: WAY " + way, x -> x.soon(way, 0, 0));
            Twins.refused(Check.INDEX, "promise 25: WAY " + way + " ahead of all", x -> x.soon(way, -1, 2));
            Twins.refused(Check.INDEX, "promise 26: WAY " + way, x -> x.hidden(way, 0, 0));
            Twins.refused(Check.INDEX, "promise 26: WAY " + way + " ahead of all", x -> x.hidden(way, 2, 2));
        }
        for (int task : new int[] {-1, 2, 6, LEAST, MOST}) {
            Twins.refused(Check.ELEMENT, "promise 24: TASK " + task, x -> x.cheat(0, task, 0, 0));
            Twins.refused(Check.ELEMENT, "promise 24: TASK " + task + " ahead of how", x -> x.cheat(1, task, -1, 2));
            Twins.refused(Check.ELEMENT, "promise 26: TASK " + task, x -> x.hidden(0, task, 0));
            Twins.refused(Check.ELEMENT, "promise 26: TASK " + task + " ahead of how", x -> x.hidden(1, task, 2));
        }
    }

    /** "How is not 0, 1", ahead of ALLOWED. */
    private static void how() {
        for (int how : new int[] {-1, 2, LEAST, MOST}) {
            Twins.refused(Check.ARGUMENT, "promise 24: how " + how, x -> x.cheat(0, 0, 0, how));
            Twins.refused(Check.ARGUMENT, "promise 25: how " + how, x -> x.soon(0, 0, how));
            Twins.refused(Check.ARGUMENT, "promise 26: how " + how, x -> x.hidden(0, 0, how));
            Twins.refused(Check.ARGUMENT, "promise 24: ahead of ALLOWED", x -> x.cheat(1, 0, 0, how));
            Twins.refused(Check.ARGUMENT, "promise 25: ahead of ALLOWED", x -> x.soon(1, 0, how));
            Twins.refused(Check.ARGUMENT, "promise 26: ahead of ALLOWED", x -> x.hidden(1, 0, how));
        }
        Twins.still(true, "promise 24: how 0", x -> x.cheat(0, 0, 0, 0));
        Twins.still(true, "promise 24: how 1", x -> x.cheat(0, 0, 0, 1));
        Twins.still(-1, "promise 25: how 0", x -> x.soon(0, 0, 0));
        Twins.still(-1, "promise 25: how 1", x -> x.soon(0, 0, 1));
        Twins.still(1, "promise 26: how 0", x -> x.hidden(0, 0, 0));
        Twins.still(1, "promise 26: how 1", x -> x.hidden(0, 0, 1));
    }

    /** "Behind IllegalStateException, too: k". */
    private static void notAllowed() {
        for (int k : new int[] {-1, 0, 1, 2, LEAST, MOST}) {
            Twins.refused(Check.STATE, "promise 24: not ALLOWED, ahead of k " + k, x -> x.cheat(1, 0, k, 0));
            Twins.refused(Check.STATE, "promise 25: not ALLOWED, ahead of k " + k, x -> x.soon(1, k, 1));
        }
        Twins.refused(Check.STATE, "promise 26: not ALLOWED", x -> x.hidden(1, 0, 0));
    }

    /** "K is not from 0 on below as many as the RUN does without". */
    private static void which() {
        for (int how = 0; how < 2; how++) {
            int wrong = how;
            for (int k : new int[] {-1, 2, 3, LEAST, MOST}) {
                Twins.refused(Check.ARGUMENT, "promise 24: k " + k, x -> x.cheat(0, 0, k, wrong));
                Twins.refused(Check.ARGUMENT, "promise 25: k " + k, x -> x.soon(0, k, wrong));
            }
            Twins.still(true, "promise 24: the first k", x -> x.cheat(2, 0, 0, wrong));
            Twins.still(-1, "promise 25: the first k", x -> x.soon(2, 0, wrong));
            Twins.still(false, "promise 24: the last k", x -> x.cheat(0, 0, 1, wrong));
            Twins.still(-1, "promise 25: the last k", x -> x.soon(0, 1, wrong));
            Twins.still(true, "promise 24: the last k, say", x -> x.cheat(2, 0, 2, wrong));
            Twins.refused(Check.ARGUMENT, "promise 24: behind say", x -> x.cheat(2, 0, 3, wrong));
        }
    }

    /** A RUN of no ACT has no k. */
    private static void ofNone() {
        Supplier<NothingAboveThree> x = with("take 0;", "1=1;");
        for (int k : new int[] {-1, 0, 1}) {
            Twins.refused(Check.ARGUMENT, "promise 24: k " + k + " of none", x, y -> y.cheat(0, 0, k, 0));
            Twins.refused(Check.ARGUMENT, "promise 25: k " + k + " of none", x, y -> y.soon(0, k, 1));
        }
        Twins.still(-1, "promise 26: of none", x, y -> y.hidden(0, 0, 0));
        Twins.still(-1, "promise 26: of none", x, y -> y.hidden(0, 0, 1));
    }

    /** Of a RUN that FAILS those ACTS count that are done. */
    private static void ofRunsThatFail() {
        Supplier<NothingAboveThree> x = with("put 1;put 1;take 0;", "1=1;");
        Twins.still(true, "promise 24: the last ACT done", x, y -> y.cheat(0, 0, 1, 0));
        Twins.refused(Check.ARGUMENT, "promise 24: the ACT that FAILED", x, y -> y.cheat(0, 0, 2, 0));
        Twins.still(0, "promise 25: the last ACT done", x, y -> y.soon(0, 1, 0));
        Twins.still(1, "promise 25: the first", x, y -> y.soon(0, 0, 0));
        Twins.refused(Check.ARGUMENT, "promise 25: the ACT that FAILED", x, y -> y.soon(0, 2, 1));
        Twins.still(-1, "promise 26: it FAILS without, too", x, y -> y.hidden(0, 0, 0));
    }

    /** An object of three HEAPS and one PLACE as told, with one WAY and one TASK. */
    private static Supplier<NothingAboveThree> with(String way, String task, int... flock) {
        return () -> {
            NothingAboveThree x = Check.in("heaps 3;places 1;moves;pairs;");
            for (int i = 0; i < flock.length; i++) {
                if (i < 3) {
                    x.heap(i, flock[i]);
                } else {
                    x.place(0, flock[i]);
                }
            }
            Check.way(x, way);
            Check.task(x, task);
            return x;
        };
    }

    /** "(From THE FLOCK, of 2,000 ACTS)", "it counts as one ACT done". */
    private static void byActs() {
        Supplier<NothingAboveThree> round = with("go 0;say 1;", "said=1;");
        for (int how = 0; how < 2; how++) {
            int wrong = how;
            Twins.taken(true, "promise 24: the 2,000th", round, x -> x.cheat(0, 0, 1999, wrong));
            Twins.taken(-1, "promise 25: the 2,000th", round, x -> x.soon(0, 1999, wrong));
            Twins.refused(Check.ARGUMENT, "promise 24: no 2,001st", round, x -> x.cheat(0, 0, 2000, wrong));
            Twins.refused(Check.ARGUMENT, "promise 25: no 2,001st", round, x -> x.soon(0, 2000, wrong));
        }
        Twins.taken(false, "promise 24: say is the 2,000th", round, x -> x.cheat(0, 0, 1998, 0));
        Twins.taken(true, "promise 24: twice as once", round, x -> x.cheat(0, 0, 1998, 1));
        // the 2,000th ACT left out leads behind the last: to come there is to end
        Supplier<NothingAboveThree> last = with("go 0;", "1=1;");
        Twins.taken(false, "promise 24: the 2,000th left out", last, x -> x.cheat(0, 0, 1999, 0));
        Twins.taken(0, "promise 26: the least left out", last, x -> x.hidden(0, 0, 0));
        Twins.taken(-1, "promise 26: twice as once", last, x -> x.hidden(0, 0, 1));
        // 666 pebbles: 1,999 ACTS; one go more ahead: 2,000
        String task = "1=1;";
        Supplier<NothingAboveThree> just = with("go 1;empty 0 4;take 0;go 1;", task, 666);
        Twins.taken(false, "promise 24: by 2,000", just, x -> x.cheat(0, 0, 1999, 1));
        Twins.taken(Check.ARGUMENT, "promise 24: it has no more", just, x -> x.cheat(0, 0, 2000, 1));
        Twins.taken(false, "promise 24: go left out", just, x -> x.cheat(0, 0, 0, 0));
        Twins.taken(true, "promise 24: a take left out, 2,003", just, x -> x.cheat(0, 0, 2, 0));
        Twins.taken(false, "promise 24: a take twice, 1,997", just, x -> x.cheat(0, 0, 2, 1));
        Supplier<NothingAboveThree> late = with("go 1;go 2;empty 0 5;take 0;go 2;", task, 666);
        Twins.taken(true, "promise 24: by 2,001", late, x -> x.cheat(0, 0, 0, 1));
        Twins.taken(true, "promise 24: left out it counts as one", late, x -> x.cheat(0, 0, 0, 0));
        Twins.taken(false, "promise 24: a take twice, 1,998", late, x -> x.cheat(0, 0, 3, 1));
        // 1,000 puts fill the HEAP; one more FAILS
        Supplier<NothingAboveThree> full = with("put 0;go 0;", task, 1000000000 - 1000);
        Twins.taken(-1, "promise 25: 999 puts", full, x -> x.soon(0, 0, 0));
        Twins.taken(1997, "promise 25: 1,001 puts", full, x -> x.soon(0, 0, 1));
        Twins.taken(1, "promise 25: the second last twice", full, x -> x.soon(0, 1996, 1));
        Twins.taken(0, "promise 25: the last twice", full, x -> x.soon(0, 1998, 1));
        // the 2,000th ACT is the 1,000th put: twice it FAILS there, though no ACT more is due
        Supplier<NothingAboveThree> lastPut = with("go 1;put 0;go 1;", task, 1000000000 - 1000);
        Twins.taken(0, "promise 25: the 2,000th twice", lastPut, x -> x.soon(0, 1999, 1));
        Twins.taken(-1, "promise 25: the 2,000th left out", lastPut, x -> x.soon(0, 1999, 0));
        // 1,001 puts fill it: the ACT that would FAIL is the 2,001st
        Supplier<NothingAboveThree> nearly = with("put 0;go 0;", task, 1000000000 - 1001);
        Twins.taken(-1, "promise 25: behind 2,000 ACTS", nearly, x -> x.soon(0, 0, 1));
        Twins.taken(-1, "promise 25: behind 2,000 ACTS", nearly, x -> x.soon(0, 1998, 1));
    }

    private static void found(boolean want, String way, String task, int k, int how, int... flock) {
        Twins.still(want, "promise 24: " + k + " " + how + " of " + way, with(way, task, flock), x -> x.cheat(0, 0, k, how));
    }

    /** "Left out (how 0; the next ACT follows)", whatever it is. */
    private static void leftOut() {
        found(false, "put 0;put 1;", "now 0=0 and now 1=1;", 0, 0);
        found(false, "put 0;put 1;", "now 0=1 and now 1=0;", 1, 0);
        found(false, "go 2;put 1;end;", "now 1=1;", 0, 0);
        found(false, "empty 0 2;put 1;end;", "now 1=1;", 0, 0);
        found(false, "none 0 2;put 1;end;", "now 1=1;", 0, 0);
        found(false, "three 0 2;put 1;end;", "now 1=1;", 0, 0, 0, 0, 0, 3);
        found(false, "end;put 1;", "now 1=1;", 0, 0);
        found(false, "end;", "1=1;", 0, 0);
        found(false, "say 1;put 1;", "said=9 and now 1=1;", 0, 0);
        found(false, "say 1;say 2;", "said=2;", 0, 0);
        found(false, "say 1;", "said=9;", 0, 0);
        found(false, "up 0;", "at 0=2;", 0, 0, 0, 0, 0, 2);
        found(false, "take 0;", "now 0=1;", 0, 0, 1);
        // of the ACTS done, not of the WAY: 4 for each pebble, and one
        String loop = "empty 0 4;take 0;put 1;go 0;";
        found(false, loop, "now 1=1;", 2, 0, 2);
        found(false, loop, "now 1=1;", 6, 0, 2);
        found(false, loop, "now 1=3;", 5, 0, 2);
        found(true, loop, "1=1;", 8, 0, 2);
        found(false, loop, "now 0=1 and now 1=1;", 3, 0, 2);
    }

    /** "Done twice (how 1; jumps, say and end: as once)". */
    private static void doneTwice() {
        found(false, "put 0;", "now 0=2;", 0, 1);
        found(false, "take 0;", "now 0=0;", 0, 1, 2);
        found(false, "move 0 1;", "now 0=0 and now 1=2;", 0, 1, 2);
        found(false, "pair 0 1;", "now 0=0 and now 1=1;", 0, 1, 2, 3);
        found(false, "up 0;", "at 0=2;", 0, 1);
        found(false, "down 0;", "at 0=1;", 0, 1, 0, 0, 0, 3);
        found(false, "empty 0 2;put 1;put 2;", "now 1=0 and now 2=1;", 0, 1);
        found(false, "empty 0 2;put 1;put 2;", "now 1=1 and now 2=1;", 0, 1, 1);
        found(false, "none 0 2;put 1;put 2;", "now 1=0 and now 2=1;", 0, 1);
        found(false, "three 0 2;put 1;put 2;", "now 1=1 and now 2=1;", 0, 1);
        found(false, "go 2;put 1;put 2;", "now 1=0 and now 2=1;", 0, 1);
        found(false, "say 2;", "said=2;", 0, 1);
        found(false, "end;put 0;", "now 0=0;", 0, 1);
        secondTime("put 0;", 1000000000 - 2, 1000000000 - 1);
        secondTime("take 0;", 2, 1);
        secondTime("move 0 1;", 2, 1);
        secondTime("pair 0 1;", 2, 1);
        Twins.still(true, "promise 24: to a HEAP that gets full", with("move 0 1;", "1=1;", 5, 999999999),
                x -> x.cheat(0, 0, 0, 1));
        Twins.still(false, "promise 24: that just does not", with("move 0 1;", "1=1;", 5, 999999998),
                x -> x.cheat(0, 0, 0, 1));
        Twins.still(true, "promise 24: up from 2", with("up 0;", "1=1;", 0, 0, 0, 2), x -> x.cheat(0, 0, 0, 1));
        Twins.still(false, "promise 24: up from 1", with("up 0;", "1=1;", 0, 0, 0, 1), x -> x.cheat(0, 0, 0, 1));
        Twins.still(true, "promise 24: down from 1", with("down 0;", "1=1;", 0, 0, 0, 1), x -> x.cheat(0, 0, 0, 1));
        Twins.still(false, "promise 24: down from 2", with("down 0;", "1=1;", 0, 0, 0, 2), x -> x.cheat(0, 0, 0, 1));
    }

    /** "If the second time cannot be done, it FAILS there, and is not counted": HEAP 0 just has room for it, or not. */
    private static void secondTime(String act, int just, int tooFew) {
        Supplier<NothingAboveThree> can = with(act + "put 2;", "1=1;", just, 9);
        Twins.still(false, "promise 24: " + act, can, x -> x.cheat(0, 0, 0, 1));
        Twins.still(-1, "promise 25: " + act, can, x -> x.soon(0, 0, 1));
        Supplier<NothingAboveThree> cannot = with(act + "put 2;", "1=1;", tooFew, 9);
        Twins.still(true, "promise 24: " + act, cannot, x -> x.cheat(0, 0, 0, 1));
        Twins.still(0, "promise 25: " + act, cannot, x -> x.soon(0, 0, 1));
        Twins.still(1, "promise 26: " + act, cannot, x -> x.hidden(0, 0, 1));
    }

    private static void soon(int want, String way, int k, int how, int... flock) {
        Twins.still(want, "promise 25: " + k + " " + how + " of " + way, with(way, "1=1;", flock), x -> x.soon(0, k, how));
    }

    /** SOON: "how many ACTS are done behind it till it FAILS"; promise 25: "NONE: it does not FAIL". */
    private static void sooner() {
        soon(-1, "put 0;", 0, 0);
        soon(0, "put 0;take 0;", 0, 0);
        soon(1, "put 0;put 1;take 0;", 0, 0);
        soon(2, "put 0;put 1;go 3;take 0;", 0, 0);
        soon(0, "put 1;put 0;take 0;", 1, 0);
        soon(-1, "put 0;take 0;", 1, 0);
        soon(0, "take 0;take 0;", 0, 1, 2);
        soon(1, "take 0;put 1;take 0;", 0, 1, 2);
        soon(0, "take 0;put 1;take 0;", 2, 1, 2);
        soon(-1, "take 0;put 1;take 0;", 2, 1, 3);
        soon(-1, "say 1;", 0, 1);
        soon(-1, "end;", 0, 0);
        soon(0, "go 2;take 0;", 0, 0);
        soon(0, "say 1;take 0;", 0, 0);
        soon(0, "end;take 0;", 0, 0);
        soon(-1, "put 0;go 0;", 7, 0);
        soon(-1, "put 0;go 0;", 1999, 0);
    }

    private static void hidden(int want, String way, String task, int how, int... flock) {
        Twins.still(want, "promise 26: " + how + " of " + way, with(way, task, flock), x -> x.hidden(0, 0, how));
    }

    /** HIDDEN: "the least k, below as many as the RUN does without, that is not FOUND"; "NONE: all are FOUND". */
    private static void hidden() {
        hidden(-1, "put 0;put 0;", "now 0=2;", 0);
        hidden(-1, "put 0;put 0;", "now 0=2;", 1);
        hidden(0, "put 1;put 0;", "now 0=1;", 0);
        hidden(1, "put 0;put 1;", "now 0=1;", 0);
        hidden(1, "put 0;put 1;", "now 0=1;", 1);
        hidden(2, "put 0;put 0;end;", "now 0=2;", 0);
        hidden(2, "put 0;put 0;end;", "now 0=2;", 1);
        hidden(2, "put 0;put 0;say 1;", "now 0=2 and said=1;", 1);
        hidden(-1, "put 0;put 0;say 1;", "now 0=2 and said=1;", 0);
        hidden(0, "put 0;put 0;", "now 0<2;", 0);
        hidden(-1, "go 0;", "1=1;", 1);
        // the 2,000th ACT alone leads out of the round
        hidden(1999, "put 0;go 0;", "now 0=1000;", 0);
    }
}

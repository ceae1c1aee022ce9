/** Promises 24 to 26: wrong acts, whether and how soon they are found, the ones that stay hidden. */
public final class WrongActTest {
    public static void main(String[] args) {
        leftOut();
        doneTwice();
        sooner();
        counting();
        hiddenOnes();
        refused();
        Check.end();
    }

    private static NothingAboveThree with(String way, String task) {
        NothingAboveThree x = Check.in("heaps 3;places 2;moves;pairs;");
        x.heap(0, 2);
        x.heap(1, 5);
        x.place(0, 1);
        Check.way(x, way);
        Check.task(x, task);
        return x;
    }

    private static void found(boolean want, String way, String task, int k, int how) {
        NothingAboveThree x = with(way, task);
        Check.due(want, "cheat " + k + " " + how + " of " + way + " for " + task, () -> x.cheat(0, 0, k, how));
        Check.due(2, "the flock stays", () -> x.heap(0, 2));
        Check.due(-1, "no run() was there", () -> x.ends(0));
    }

    private static void leftOut() {
        found(false, "put 2;put 2;", "now 2=1;", 0, 0);
        found(true, "put 2;put 2;", "now 2=2;", 1, 0);
        found(false, "say 1;say 2;", "said=2;", 0, 0);
        found(false, "say 1;", "said=9;", 0, 0);
        found(false, "end;put 2;", "now 2=1;", 0, 0);
        found(false, "go 2;put 2;end;", "now 2=1;", 0, 0);
        found(false, "empty 2 2;put 2;end;", "now 2=1;", 0, 0);
        found(false, "none 1 2;put 2;end;", "now 2=1;", 0, 0);
        // in a loop the k-th act done, not the act k
        found(false, "empty 0 4;take 0;put 2;go 0;", "now 0=0 and now 2=1;", 6, 0);
        found(false, "empty 0 4;take 0;put 2;go 0;", "now 0=0 and now 2=3;", 5, 0);
        found(false, "empty 0 4;take 0;put 2;go 0;", "now 0=1 and now 2=1;", 3, 0);
    }

    private static void doneTwice() {
        found(false, "put 2;", "now 2=2;", 0, 1);
        found(false, "take 0;", "now 0=0;", 0, 1);
        found(true, "take 0;take 0;", "1=1;", 1, 1);
        found(false, "move 1 2;", "now 1=3 and now 2=2;", 0, 1);
        found(false, "pair 0 1;", "now 0=0 and now 1=3;", 0, 1);
        found(false, "up 0;", "at 0=3;", 0, 1);
        found(true, "down 0;", "1=1;", 0, 1);
        found(false, "go 2;put 2;put 1;", "now 1=6 and now 2=0;", 0, 1);
        found(false, "say 3;", "said=3;", 0, 1);
        found(false, "end;put 2;", "now 2=0;", 0, 1);
        found(false, "empty 2 2;put 2;put 2;", "now 2=1;", 0, 1);
    }

    private static void soon(int want, String way, int k, int how) {
        NothingAboveThree x = with(way, "1=1;");
        Check.due(want, "soon " + k + " " + how + " of " + way, () -> x.soon(0, k, how));
    }

    private static void sooner() {
        soon(-1, "put 2;", 0, 0);
        soon(-1, "put 2;", 0, 1);
        soon(0, "put 2;take 2;", 0, 0);
        soon(1, "put 2;put 0;take 2;", 0, 0);
        soon(2, "put 2;put 0;put 0;take 2;", 0, 0);
        soon(1, "put 2;put 0;put 0;take 2;take 2;", 2, 0);
        soon(0, "take 0;take 0;", 1, 1);
        soon(0, "take 0;take 0;", 0, 1);
        soon(3, "take 0;put 2;put 2;put 2;take 0;", 0, 1);
        soon(0, "down 0;", 0, 1);
        soon(-1, "go 0;", 5, 0);
        soon(-1, "go 0;", 1999, 1);
        // it fails without, too
        soon(1, "put 0;put 0;take 2;", 0, 1);
    }

    private static void counting() {
        // 1,999 acts; one left out that lengthens it to 2,002 is too many
        NothingAboveThree x = new NothingAboveThree();
        Check.way(x, "empty 0 3;take 0;go 0;");
        Check.task(x, "1=1;");
        x.heap(0, 666);
        Check.due(true, "holds", () -> x.holds(0, 0));
        Check.due(true, "a take left out", () -> x.cheat(0, 0, 1, 0));
        Check.due(false, "a take done twice", () -> x.cheat(0, 0, 1, 1));
        Check.due(true, "the last look left out", () -> x.cheat(0, 0, 1998, 0));
        Check.due(0, "then a take fails", () -> x.soon(0, 1998, 0));
        Check.due(Check.ARGUMENT, "no such act done", () -> x.cheat(0, 0, 1999, 0));
        Check.due(Check.ARGUMENT, "no such act done", () -> x.soon(0, 1999, 0));
        NothingAboveThree y = new NothingAboveThree();
        Check.way(y, "go 0;say 1;");
        Check.task(y, "said=1;");
        Check.due(false, "the 2,000th but one", () -> y.cheat(0, 0, 1998, 0));
        Check.due(true, "it counts as one act", () -> y.cheat(0, 0, 1999, 0));
        Check.due(0, "least of them", () -> y.hidden(0, 0, 0));
        Check.due(-1, "twice is as once", () -> y.hidden(0, 0, 1));
        Check.due(Check.ARGUMENT, "not of 2,000", () -> y.cheat(0, 0, 2000, 0));
    }

    private static void hiddenOnes() {
        NothingAboveThree x = with("put 2;put 1;take 1;put 2;", "now 2=2;");
        Check.due(1, "put 1 left out", () -> x.hidden(0, 0, 0));
        Check.due(1, "put 1 twice", () -> x.hidden(0, 0, 1));
        NothingAboveThree all = with("put 2;put 2;", "now 2=2;");
        Check.due(-1, "all are found", () -> all.hidden(0, 0, 0));
        Check.due(-1, "all are found", () -> all.hidden(0, 0, 1));
        NothingAboveThree none = with("take 2;", "1=1;");
        Check.due(-1, "nothing is done", () -> none.hidden(0, 0, 0));
        Check.due(Check.ARGUMENT, "nothing is done", () -> none.cheat(0, 0, 0, 0));
        Check.due(Check.ARGUMENT, "nothing is done", () -> none.soon(0, 0, 0));
    }

    private static void refused() {
        NothingAboveThree x = new NothingAboveThree();
        Check.way(x, "put 9;");
        Check.way(x, "put 0;");
        Check.due(Check.INDEX, "cheat", () -> x.cheat(2, 0, 0, 2));
        Check.due(Check.INDEX, "soon", () -> x.soon(2, 0, 2));
        Check.due(Check.INDEX, "hidden", () -> x.hidden(-1, 0, 2));
        Check.due(Check.ELEMENT, "cheat", () -> x.cheat(0, 0, 0, 2));
        Check.due(Check.ELEMENT, "hidden", () -> x.hidden(0, 0, 2));
        Check.task(x, "1=1;");
        Check.due(Check.ARGUMENT, "how 2", () -> x.cheat(0, 0, 0, 2));
        Check.due(Check.ARGUMENT, "how -1", () -> x.cheat(0, 0, 0, -1));
        Check.due(Check.ARGUMENT, "how 2", () -> x.soon(0, 0, 2));
        Check.due(Check.ARGUMENT, "how -1", () -> x.hidden(0, 0, -1));
        Check.due(Check.STATE, "ahead of k", () -> x.cheat(0, 0, 9, 0));
        Check.due(Check.STATE, "ahead of k", () -> x.soon(0, -1, 0));
        Check.due(Check.STATE, "hidden", () -> x.hidden(0, 0, 0));
        Check.due(Check.ARGUMENT, "k", () -> x.cheat(1, 0, 1, 0));
        Check.due(Check.ARGUMENT, "k", () -> x.cheat(1, 0, -1, 0));
        Check.due(Check.ARGUMENT, "k", () -> x.soon(1, 1, 1));
        Check.due(Check.ARGUMENT, "k", () -> x.soon(1, -1, 1));
        Check.due(false, "cheat", () -> x.cheat(1, 0, 0, 1));
    }
}

/** Promises 20 to 23: ways found by going through all, rivals, numbers no way tells apart. */
public final class FindTest {
    public static void main(String[] args) {
        order();
        found();
        rivals();
        refused();
        kept();
        apart();
        blind();
        Check.end();
    }

    /** A task that only one act meets tells which number that act has. */
    private static void numbered(String valley, String task, int want) {
        NothingAboveThree x = Check.in(valley);
        Check.task(x, task);
        int m = Math.min(2, x.told(0));
        Check.due(1, "length for " + task, () -> x.find(0, m, 3, 1, 20000, 0));
        Check.due(want, "act for " + task, () -> x.find(0, m, 3, 1, 20000, 3));
        Check.due(want + 1, "tried for " + task, () -> x.find(0, m, 3, 1, 20000, 1));
        Check.due(-1, "no second act for " + task, () -> x.find(0, m, 3, 1, 20000, 4));
        Check.due(-1, "no third act for " + task, () -> x.find(0, m, 3, 1, 20000, 5));
    }

    private static void order() {
        String all = "heaps 5;moves;pairs;";
        numbered(all, "now 0=was 0+1;", 0);
        numbered(all, "now 1=was 1+1;", 2);
        numbered(all, "now 2=was 2+1;", 4);
        // 6 put and take, 6 move, 3 pair, 3 times 2 empty, 2 go, then say 0 to 3
        numbered(all, "said=0;", 23);
        numbered(all, "said=3;", 26);
        numbered("heaps 5;words 1;", "said=1;", 6 + 6 + 2 + 1);
        numbered("heaps 5;moves;", "said=0;", 6 + 6 + 6 + 2);
        numbered("heaps 5;pairs;", "said=0;", 6 + 3 + 6 + 2);
        numbered("heaps 1;moves;pairs;", "said=0;", 2 + 2 + 2);
        numbered("heaps 2;moves;pairs;", "said=0;", 4 + 2 + 1 + 4 + 2);
        // empty 0 0 goes round on an empty heap, empty 0 1 is the first that leaves all alone
        numbered("heaps 1;", "now 0=was 0 and said=9;", 3);
        // of nothing but 0 in each heap
        NothingAboveThree x = Check.in(all);
        Check.task(x, "now 0=was 0-1 and now 2=was 2+1;");
        Check.task(x, "said=9 and now 0+now 1+now 2=0;");
        Check.due(-1, "an empty heap hinders it", () -> x.find(0, 1, 0, 1, 20000, 0));
        // put and take, move, pair come first; empty 0 0 does not end, empty 0 1 does
        Check.due(16, "the first that does nothing", () -> x.find(1, 1, 0, 1, 20000, 3));
    }

    private static void found() {
        NothingAboveThree x = Check.in("heaps 1;words 1;");
        Check.task(x, "now 0=was 0+2;");
        Check.task(x, "now 0=was 0+3;");
        Check.task(x, "now 0=was 0+4;");
        Check.task(x, "now 0=0;");
        Check.due(2, "two puts", () -> x.find(0, 1, 2, 3, 20000, 0));
        Check.due(10, "tried: 9 of one act, and it", () -> x.find(0, 1, 2, 3, 20000, 1));
        Check.due(0, "put 0", () -> x.find(0, 1, 2, 3, 20000, 3));
        Check.due(0, "put 0", () -> x.find(0, 1, 2, 3, 20000, 4));
        Check.due(-1, "no third", () -> x.find(0, 1, 2, 3, 20000, 5));
        // 9 of one act, 11 times 11 of two: put, take, three empty, three go, two say, end
        Check.due(3, "three puts", () -> x.find(1, 1, 2, 3, 20000, 0));
        Check.due(9 + 121 + 1, "tried", () -> x.find(1, 1, 2, 3, 20000, 1));
        Check.due(0, "third", () -> x.find(1, 1, 2, 3, 20000, 5));
        Check.due(-1, "four cannot be", () -> x.find(2, 1, 2, 3, 20000, 0));
        Check.due(9 + 121 + 13 * 13 * 13, "all were tried", () -> x.find(2, 1, 2, 3, 20000, 1));
        Check.due(-1, "none is found", () -> x.find(2, 1, 2, 3, 20000, 2));
        Check.due(-1, "none is found", () -> x.find(2, 1, 2, 3, 20000, 3));
        Check.due(9, "of one act at most", () -> x.find(2, 1, 2, 1, 20000, 1));
        Check.due(100, "so many at most", () -> x.find(2, 1, 2, 3, 100, 1));
        Check.due(-1, "one tried too few", () -> x.find(1, 1, 2, 3, 130, 0));
        Check.due(130, "one tried too few", () -> x.find(1, 1, 2, 3, 130, 1));
        Check.due(3, "just enough", () -> x.find(1, 1, 2, 3, 131, 0));
        // empty 0 3; take 0; go 0
        Check.due(3, "taken till it is empty", () -> x.find(3, 1, 3, 3, 20000, 0));
        Check.due(2 + 3, "empty 0 3", () -> x.find(3, 1, 3, 3, 20000, 3));
        Check.due(1, "take 0", () -> x.find(3, 1, 3, 3, 20000, 4));
        Check.due(2 + 4, "go 0", () -> x.find(3, 1, 3, 3, 20000, 5));
        NothingAboveThree wide = Check.in("heaps 3;moves;pairs;");
        Check.task(wide, "1=2;");
        Check.due(28, "all of one act", () -> wide.find(0, 2, 3, 1, 20000, 1));
        Check.due(28 + 32 * 32, "all of two", () -> wide.find(0, 2, 3, 2, 20000, 1));
        Check.due(20000, "not all of three", () -> wide.find(0, 2, 3, 3, 20000, 1));
    }

    private static void rivals() {
        NothingAboveThree x = Check.in("heaps 1;words 1;");
        Check.task(x, "now 0=was 0 and said=9;");
        Check.task(x, "now 0=was 0+2;");
        Check.task(x, "said=1;");
        // empty 0 1, go 1, end
        Check.due(3, "three do nothing", () -> x.find(0, 1, 3, 3, 20000, 2));
        Check.due(4, "the first of them", () -> x.find(0, 1, 3, 3, 20000, 1));
        Check.due(1, "of those tried", () -> x.find(0, 1, 3, 3, 4, 2));
        Check.due(1, "of those tried", () -> x.find(0, 1, 3, 3, 5, 2));
        Check.due(2, "of those tried", () -> x.find(0, 1, 3, 3, 6, 2));
        Check.due(3, "of those tried", () -> x.find(0, 1, 3, 3, 9, 2));
        Check.due(1, "put 0 twice alone", () -> x.find(1, 1, 3, 3, 20000, 2));
        Check.due(1, "say 1 alone", () -> x.find(2, 1, 3, 3, 20000, 2));
    }

    private static void refused() {
        NothingAboveThree x = Check.in("heaps 1;");
        Check.due(Check.ELEMENT, "no such task", () -> x.find(0, 0, 0, 0, 0, 9));
        Check.due(Check.ELEMENT, "no such task", () -> x.keep(0, 0, 0, 0, 0));
        Check.task(x, "1=1;");
        int[][] wrong = {{0, 0, 1, 1}, {2, 0, 1, 1}, {1, -1, 1, 1}, {1, 4, 1, 1}, {1, 0, 0, 1},
            {1, 0, 4, 1}, {1, 0, 1, 0}, {1, 0, 1, 20001}};
        for (int[] w : wrong) {
            Check.due(Check.ARGUMENT, "find", () -> x.find(0, w[0], w[1], w[2], w[3], 0));
            Check.due(Check.ARGUMENT, "keep", () -> x.keep(0, w[0], w[1], w[2], w[3]));
        }
        Check.due(Check.ARGUMENT, "what 6", () -> x.find(0, 1, 0, 1, 1, 6));
        Check.due(Check.ARGUMENT, "what -1", () -> x.find(0, 1, 0, 1, 1, -1));
        Check.valley(x, "heaps 3;mind 2;");
        Check.due(Check.ARGUMENT, "m above 2", () -> x.find(0, 3, 0, 1, 1, 0));
        Check.due(Check.ARGUMENT, "acts above mind", () -> x.find(0, 2, 0, 3, 1, 0));
        Check.due(Check.ARGUMENT, "acts above mind", () -> x.keep(0, 2, 0, 3, 1));
        Check.due(Check.ARGUMENT, "acts above mind", () -> x.can(3, 0, 1));
        Check.due(Check.ARGUMENT, "acts above mind", () -> x.why(3, 1));
        Check.due(1, "as many as mind", () -> x.find(0, 2, 3, 2, 20000, 0));
        Check.due(true, "as many as mind", () -> x.can(2, 0, 1));
    }

    private static void kept() {
        NothingAboveThree x = Check.in("heaps 1;words 1;");
        Check.task(x, "now 0=0 and said=9;");
        Check.task(x, "1=2;");
        Check.due(-2, "none is found", () -> x.keep(1, 1, 0, 1, 20000));
        Check.due(0, "kept", () -> x.keep(0, 1, 3, 3, 20000));
        int[][] acts = {{4, 0, 3}, {1, 0, -1}, {9, 0, -1}};
        for (int k = 0; k < 3; k++) {
            for (int what = 0; what < 3; what++) {
                int at = k;
                int asked = what;
                Check.due(acts[k][what], "act " + k + " " + what, () -> x.act(0, at, asked));
            }
        }
        Check.due(Check.ELEMENT, "no fourth", () -> x.act(0, 3, 0));
        Check.due(-1, "it is allowed", () -> x.judge(0));
        Check.due(10, "it is right", () -> x.right(0, 0, 1, 9));
        for (int i = 1; i < 6; i++) {
            Check.due(i, "kept", () -> x.keep(0, 1, 0, 1, 20000));
        }
        Check.due(-1, "there are 6", () -> x.keep(0, 1, 0, 1, 20000));
        Check.due(-1, "there are 6, found or not", () -> x.keep(1, 1, 0, 1, 20000));
        Check.due(6, "ways", () -> x.count(0));
        Check.due(4, "the first is as it was", () -> x.act(0, 0, 0));
    }

    private static void apart() {
        NothingAboveThree x = Check.in("heaps 1;words 1;");
        Check.due(true, "take 0", () -> x.can(1, 0, 1));
        Check.due(true, "either way round", () -> x.can(1, 1, 0));
        Check.due(false, "one act sees no more than empty", () -> x.can(1, 1, 2));
        Check.due(true, "two takes", () -> x.can(2, 1, 2));
        Check.due(false, "two acts see two", () -> x.can(2, 2, 9));
        Check.due(true, "three takes", () -> x.can(3, 2, 3));
        Check.due(false, "a number and itself", () -> x.can(3, 4, 4));
        Check.due(true, "0 and 9", () -> x.can(3, 9, 0));
        Check.due(Check.ARGUMENT, "acts 0", () -> x.can(0, 0, 1));
        Check.due(Check.ARGUMENT, "acts 4", () -> x.can(4, 0, 1));
        Check.due(Check.ARGUMENT, "a -1", () -> x.can(1, -1, 1));
        Check.due(Check.ARGUMENT, "a 10", () -> x.can(1, 10, 1));
        Check.due(Check.ARGUMENT, "b -1", () -> x.can(1, 0, -1));
        Check.due(Check.ARGUMENT, "b 10", () -> x.can(1, 0, 10));
    }

    private static void blind() {
        NothingAboveThree x = new NothingAboveThree();
        Check.due(-1, "0 and 1 by one act", () -> x.why(1, 1));
        Check.due(12, "1 and 2 by one act", () -> x.why(1, 2));
        Check.due(12, "the first", () -> x.why(1, 6));
        Check.due(-1, "to 2 by two acts", () -> x.why(2, 2));
        Check.due(23, "2 and 3 by two acts", () -> x.why(2, 6));
        Check.due(Check.ARGUMENT, "acts 0", () -> x.why(0, 1));
        Check.due(Check.ARGUMENT, "acts 4", () -> x.why(4, 1));
        Check.due(Check.ARGUMENT, "n 0", () -> x.why(1, 0));
        Check.due(Check.ARGUMENT, "n 7", () -> x.why(1, 7));
    }
}

/** Promises 18, 19 and 40: of how many flocks a task holds, the least of which not, what is kept. */
public final class RightTest {
    private static final String EMPTY_INTO = "empty 0 4;take 0;put 1;go 0;";

    public static void main(String[] args) {
        counted();
        numbered();
        refused();
        kept();
        keptAtEdges();
        keptRefused();
        Check.end();
    }

    private static void counted() {
        NothingAboveThree x = Check.in("heaps 3;places 1;");
        Check.way(x, EMPTY_INTO);
        Check.way(x, "take 0;put 1;");
        Check.way(x, "go 0;");
        Check.task(x, "now 1=was 0+was 1;");
        Check.task(x, "was 2=0 and at 0=0;");
        x.heap(0, 3);
        x.heap(2, 9);
        x.place(0, 2);
        Check.due(16, "right", () -> x.right(0, 0, 2, 3));
        Check.due(-1, "least", () -> x.least(0, 0, 2, 3));
        Check.due(10, "only heap 0 being 1 is right", () -> x.right(1, 0, 2, 9));
        Check.due(0, "least", () -> x.least(1, 0, 2, 9));
        Check.due(1, "n may be 0", () -> x.right(0, 0, 3, 0));
        Check.due(1000, "all of three heaps", () -> x.right(0, 0, 3, 9));
        Check.due(4, "the flock itself does not count", () -> x.right(0, 1, 1, 3));
        Check.due(0, "a run that does not end", () -> x.right(2, 1, 1, 3));
        Check.due(0, "least of it", () -> x.least(2, 1, 1, 3));
        Check.due(9, "the flock stays", () -> x.heap(2, 9));
        Check.due(-1, "no run() was there", () -> x.ends(0));
    }

    private static void numbered() {
        NothingAboveThree x = Check.in("heaps 3;");
        Check.way(x, "end;");
        Check.task(x, "not [was 0=2 and was 1=0 and was 2=7];");
        Check.task(x, "was 0+was 1<5;");
        Check.task(x, "was 1<1;");
        Check.due(999, "right", () -> x.right(0, 0, 3, 9));
        Check.due(207, "the heap 0 is the highest digit", () -> x.least(0, 0, 3, 9));
        Check.due(-1, "beyond n", () -> x.least(0, 0, 3, 6));
        Check.due(-1, "beyond m", () -> x.least(0, 0, 2, 9));
        Check.due(5, "least", () -> x.least(0, 1, 2, 9));
        Check.due(23, "least", () -> x.least(0, 1, 2, 3));
        Check.due(5, "least of one heap", () -> x.least(0, 1, 1, 9));
        Check.due(10, "least of three", () -> x.least(0, 2, 3, 9));
    }

    private static void refused() {
        NothingAboveThree x = new NothingAboveThree();
        Check.way(x, "put 9;");
        Check.due(Check.INDEX, "right", () -> x.right(1, 0, 0, -1));
        Check.due(Check.INDEX, "least", () -> x.least(-1, 0, 0, -1));
        Check.due(Check.ELEMENT, "right", () -> x.right(0, 0, 0, -1));
        Check.due(Check.ELEMENT, "least", () -> x.least(0, -1, 0, -1));
        Check.task(x, "1=1;");
        int[][] wrong = {{0, 3}, {-1, 3}, {3, 3}, {4, 3}, {1, -1}, {1, 10}};
        for (int[] pair : wrong) {
            Check.due(Check.ARGUMENT, "right", () -> x.right(0, 0, pair[0], pair[1]));
            Check.due(Check.ARGUMENT, "least", () -> x.least(0, 0, pair[0], pair[1]));
            Check.due(Check.ARGUMENT, "kept", () -> x.kept(0, 0, 0, pair[0], pair[1]));
        }
        Check.due(Check.STATE, "right", () -> x.right(0, 0, 2, 9));
        Check.due(Check.STATE, "least", () -> x.least(0, 0, 2, 9));
        Check.valley(x, "heaps 12;");
        Check.due(Check.ARGUMENT, "four heaps", () -> x.right(0, 0, 4, 1));
        Check.due(Check.ARGUMENT, "four heaps", () -> x.least(0, 0, 4, 1));
        Check.due(Check.ARGUMENT, "four heaps", () -> x.kept(0, 0, 0, 4, 1));
        Check.due(1000, "right", () -> x.right(0, 0, 3, 9));
    }

    private static void kept() {
        NothingAboveThree x = new NothingAboveThree();
        Check.way(x, EMPTY_INTO);
        Check.task(x, "now 0+now 1=was 0+was 1;");
        Check.task(x, "now 0=0;");
        Check.task(x, "said=9;");
        Check.due(-1, "at the head of the loop", () -> x.kept(0, 0, 0, 2, 9));
        Check.due(-1, "ahead of take", () -> x.kept(0, 0, 1, 2, 9));
        Check.due(10, "between take and put", () -> x.kept(0, 0, 2, 2, 9));
        Check.due(-1, "behind put", () -> x.kept(0, 0, 3, 2, 9));
        Check.due(-1, "behind the last", () -> x.kept(0, 0, 4, 2, 9));
        Check.due(1, "the first time counts", () -> x.kept(0, 1, 0, 1, 9));
        Check.due(-1, "behind the last", () -> x.kept(0, 1, 4, 1, 9));
        Check.due(-1, "never come to", () -> x.kept(0, 1, 1, 1, 0));
        Check.due(1, "come to", () -> x.kept(0, 1, 1, 1, 1));
        Check.due(-1, "said is 9", () -> x.kept(0, 2, 0, 1, 3));
    }

    private static void keptAtEdges() {
        NothingAboveThree x = Check.in("places 1;");
        Check.way(x, "say 1;");
        Check.way(x, "end;put 0;");
        Check.way(x, "take 0;put 0;");
        Check.way(x, "put 0;go 0;");
        Check.task(x, "said=9;");
        Check.task(x, "1=2;");
        Check.task(x, "now 0<1000;");
        Check.task(x, "at 0=0;");
        Check.task(x, "now 0-was 0<1000;");
        Check.due(-1, "at say nothing is said yet", () -> x.kept(0, 0, 0, 1, 3));
        Check.due(0, "say is come to", () -> x.kept(0, 1, 0, 1, 3));
        Check.due(-1, "not behind the last by say", () -> x.kept(0, 1, 1, 1, 3));
        Check.due(0, "end is come to", () -> x.kept(1, 1, 0, 1, 3));
        Check.due(-1, "nothing follows end", () -> x.kept(1, 1, 1, 1, 3));
        Check.due(-1, "not behind the last by end", () -> x.kept(1, 1, 2, 1, 3));
        Check.due(0, "what fails is come to", () -> x.kept(2, 1, 0, 1, 3));
        Check.due(1, "not behind what fails", () -> x.kept(2, 1, 1, 1, 3));
        Check.due(1, "not behind what fails", () -> x.kept(2, 1, 2, 1, 3));
        Check.due(0, "behind the 2,000th act, too", () -> x.kept(3, 4, 0, 1, 3));
        Check.due(0, "ahead of the 2,000th act", () -> x.kept(3, 4, 1, 1, 3));
        Check.due(0, "behind 1,999 acts", () -> x.kept(3, 2, 1, 1, 3));
        Check.valley(x, "places 1;words 0;");
        x.place(0, 3);
        Check.due(-1, "the flock itself does not count", () -> x.kept(3, 3, 0, 2, 2));
        NothingAboveThree y = new NothingAboveThree();
        Check.way(y, "put 0;go 0;");
        Check.task(y, "now 0<1000;");
        Check.task(y, "now 0<1001;");
        Check.due(0, "1,000 behind 2,000 acts", () -> y.kept(0, 0, 0, 1, 0));
        Check.due(-1, "but no more", () -> y.kept(0, 1, 0, 1, 0));
        Check.due(0, "1,000 behind 1,999 acts", () -> y.kept(0, 0, 1, 1, 0));
        Check.due(1, "one more pebble at first", () -> y.kept(0, 1, 1, 1, 3));
    }

    private static void keptRefused() {
        NothingAboveThree x = new NothingAboveThree();
        Check.way(x, "put 9;end;");
        Check.due(Check.INDEX, "kept", () -> x.kept(1, 0, 0, 1, 1));
        Check.due(Check.ELEMENT, "kept", () -> x.kept(0, 0, 0, 1, 1));
        Check.task(x, "1=1;");
        Check.due(Check.ELEMENT, "kept", () -> x.kept(0, 0, 3, 0, 1));
        Check.due(Check.ELEMENT, "kept", () -> x.kept(0, 0, -1, 0, 1));
        Check.due(Check.ARGUMENT, "kept", () -> x.kept(0, 0, 2, 0, 1));
        Check.due(Check.STATE, "kept", () -> x.kept(0, 0, 2, 1, 1));
        Check.due(3, "elements refused", () -> x.status(1));
    }
}

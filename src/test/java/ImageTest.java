/** Promises 46 to 49: images, what they keep and what not, refused calls, counts. */
public final class ImageTest {
    public static void main(String[] args) {
        numbers();
        kept();
        notKept();
        refused();
        counted();
        Check.end();
    }

    private static void numbers() {
        NothingAboveThree x = new NothingAboveThree();
        Check.due(-1, "restore without", () -> x.restore());
        for (int i = 1; i <= 3; i++) {
            x.heap(0, i);
            Check.due(i, "image", () -> x.image());
        }
        x.heap(0, 9);
        Check.due(-1, "a fourth", () -> x.image());
        Check.due(3, "images", () -> x.count(2));
        Check.due(2, "restore", () -> x.restore());
        Check.due(3, "the latest", () -> x.heap(0, 7));
        Check.due(3, "image", () -> x.image());
        Check.due(7, "heap", () -> x.heap(0, 8));
        Check.due(2, "restore", () -> x.restore());
        Check.due(7, "as in the image", () -> x.heap(0, 0));
        Check.due(1, "restore", () -> x.restore());
        Check.due(2, "the second", () -> x.heap(0, 0));
        Check.due(0, "restore", () -> x.restore());
        Check.due(1, "the first", () -> x.heap(0, 0));
        Check.due(-1, "none is left", () -> x.restore());
        Check.due(0, "images", () -> x.count(2));
    }

    private static void kept() {
        NothingAboveThree x = Check.in("heaps 4;places 3;mind 7;words 1;pairs;moves;");
        Check.way(x, "put 3;up 2;say 1;");
        x.heap(3, 5);
        x.place(2, 1);
        x.run(0, 9);
        x.field(5, 3, 44);
        x.mark(5, 5, true);
        x.rate(5, 0, 12, 34);
        x.knows(7, 6);
        Check.due(1, "image", () -> x.image());
        Check.valley(x, "");
        Check.way(x, "put 1;");
        x.heap(1, 9);
        x.run(1, 9);
        x.field(5, 3, 0);
        x.mark(5, 5, false);
        x.rate(5, 0, 0, 0);
        x.knows(7, -1);
        Check.due(0, "restore", () -> x.restore());
        int[] told = {4, 3, 7, 1, 1, 1, 2, 0};
        for (int i = 0; i < told.length; i++) {
            int what = i;
            Check.due(told[i], "told " + i, () -> x.told(what));
        }
        int[] ends = {1, 3, 2, 1};
        for (int i = 0; i < ends.length; i++) {
            int what = i;
            Check.due(ends[i], "ends " + i, () -> x.ends(what));
        }
        Check.due(6, "row", () -> x.row(3));
        Check.due(2, "left", () -> x.left(2));
        Check.due(0, "row", () -> x.row(1));
        Check.due(5, "heap", () -> x.heap(3, 0));
        Check.due(0, "heap", () -> x.heap(1, 0));
        Check.due(1, "place", () -> x.place(2, 0));
        Check.due(44, "field", () -> x.field(5, 3, 0));
        Check.due(true, "mark", () -> x.mark(5, 5, false));
        Check.due(1234, "rate", () -> x.rate(5, 0, 0, 0));
        Check.due(6, "knows", () -> x.knows(7, -1));
        Check.due(1, "on", () -> x.on());
        Check.due(6, "heap", () -> x.heap(3, 0));
        NothingAboveThree y = new NothingAboveThree();
        Check.way(y, "put 0;");
        y.image();
        y.run(0, 1);
        y.restore();
        Check.due(-1, "without a run in the image", () -> y.ends(0));
        Check.due(0, "without a run in the image", () -> y.on());
    }

    private static void notKept() {
        NothingAboveThree x = new NothingAboveThree();
        x.image();
        Check.way(x, "put 0;");
        Check.task(x, "1=1;");
        Check.task(x, "1=1");
        Check.feed(x, "abc");
        Check.answer(() -> x.told(9));
        Check.due(0, "restore", () -> x.restore());
        Check.due(1, "ways stay", () -> x.count(0));
        Check.due(1, "tasks stay", () -> x.count(1));
        Check.due(20, "the tape stays", () -> x.count(3));
        Check.due(3, "the fault stays", () -> x.fault());
        Check.due(1, "refused calls stay", () -> x.status(2));
    }

    private static void refused() {
        NothingAboveThree x = new NothingAboveThree();
        Check.way(x, "put 9;");
        Check.answer(() -> x.judge(1));
        Check.answer(() -> x.run(5, 0));
        Check.answer(() -> x.act(0, 7, 0));
        Check.answer(() -> x.holds(0, 0));
        Check.answer(() -> x.find(0, 9, 9, 9, 9, 9));
        Check.answer(() -> x.told(99));
        Check.answer(() -> x.valley(99));
        Check.answer(() -> x.places(-1));
        Check.answer(() -> x.rate(0, 0, 0, 0));
        Check.answer(() -> x.run(0, 5));
        Check.due(2, "indexes", () -> x.status(0));
        Check.due(3, "elements", () -> x.status(1));
        Check.due(4, "arguments", () -> x.status(2));
        Check.due(1, "states", () -> x.status(3));
        Check.due(-1, "status 4", () -> x.status(4));
        Check.due(-1, "status -1", () -> x.status(-1));
        Check.due(-1, "status least", () -> x.status(Integer.MIN_VALUE));
        Check.due(4, "others are no refusal", () -> x.status(2));
    }

    private static void counted() {
        NothingAboveThree x = new NothingAboveThree();
        Check.way(x, "end;");
        Check.way(x, "end;");
        Check.task(x, "1=1;");
        x.image();
        x.image();
        x.image();
        x.feed(0, 0, 0, 0, 0);
        Check.due(2, "ways", () -> x.count(0));
        Check.due(1, "tasks", () -> x.count(1));
        Check.due(3, "images", () -> x.count(2));
        Check.due(20, "bytes", () -> x.count(3));
        Check.due(-1, "count 4", () -> x.count(4));
        Check.due(-1, "count -1", () -> x.count(-1));
    }
}

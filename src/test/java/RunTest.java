/** Promises 10 to 17: the flock, runs, how they end, what they leave, what holds. */
public final class RunTest {
    private static final int BILLION = 1000000000;

    public static void main(String[] args) {
        flock();
        actsOfARun();
        failures();
        limits();
        latest();
        refusals();
        holding();
        values();
        Check.end();
    }

    private static void flock() {
        NothingAboveThree x = Check.in("heaps 3;places 2;");
        Check.due(0, "heap", () -> x.heap(2, BILLION));
        Check.due(BILLION, "heap", () -> x.heap(2, 0));
        Check.due(0, "heap", () -> x.heap(2, 4));
        Check.due(Check.ARGUMENT, "heap 3", () -> x.heap(3, 0));
        Check.due(Check.ARGUMENT, "heap -1", () -> x.heap(-1, 0));
        Check.due(Check.ARGUMENT, "too many", () -> x.heap(2, BILLION + 1));
        Check.due(Check.ARGUMENT, "too few", () -> x.heap(2, -1));
        Check.due(4, "heap", () -> x.heap(2, 4));
        Check.due(0, "place", () -> x.place(1, 3));
        Check.due(3, "place", () -> x.place(1, 2));
        Check.due(Check.ARGUMENT, "place 2", () -> x.place(2, 0));
        Check.due(Check.ARGUMENT, "place -1", () -> x.place(-1, 0));
        Check.due(Check.ARGUMENT, "four", () -> x.place(1, 4));
        Check.due(Check.ARGUMENT, "below nought", () -> x.place(1, -1));
        Check.due(2, "place", () -> x.place(1, 0));
        NothingAboveThree none = new NothingAboveThree();
        Check.due(Check.ARGUMENT, "no places", () -> none.place(0, 0));
    }

    /** Runs a way, with 5, 3, 0 pebbles and 0, 3, 1 in places: ends, acts, at, said, heaps, places. */
    private static void ran(String way, int limit, int... want) {
        NothingAboveThree x = Check.in("heaps 3;places 3;moves;pairs;");
        x.heap(0, 5);
        x.heap(1, 3);
        x.place(1, 3);
        x.place(2, 1);
        Check.way(x, way);
        Check.due(want[0], "run " + way, () -> x.run(0, limit));
        for (int i = 0; i < 4; i++) {
            int what = i;
            Check.due(want[i], "ends " + i + " of " + way, () -> x.ends(what));
        }
        for (int i = 0; i < 3; i++) {
            int what = i;
            Check.due(want[4 + i], "row " + i + " of " + way, () -> x.row(what));
            Check.due(want[7 + i], "left " + i + " of " + way, () -> x.left(what));
        }
        Check.due(5, "the flock stays", () -> x.heap(0, 5));
        Check.due(3, "the flock stays", () -> x.place(1, 3));
    }

    private static void actsOfARun() {
        ran("put 2;", 9, 0, 1, 1, 9, 5, 3, 1, 0, 3, 1);
        ran("take 0;take 1;", 9, 0, 2, 2, 9, 4, 2, 0, 0, 3, 1);
        ran("move 0 2;", 9, 0, 1, 1, 9, 4, 3, 1, 0, 3, 1);
        ran("pair 0 1;", 9, 0, 1, 1, 9, 4, 2, 0, 0, 3, 1);
        ran("up 0;down 1;", 9, 0, 2, 2, 9, 5, 3, 0, 1, 2, 1);
        ran("empty 2 2;put 0;put 1;", 9, 0, 2, 3, 9, 5, 4, 0, 0, 3, 1);
        ran("empty 0 2;put 0;put 1;", 9, 0, 3, 3, 9, 6, 4, 0, 0, 3, 1);
        ran("none 0 2;put 0;put 1;", 9, 0, 2, 3, 9, 5, 4, 0, 0, 3, 1);
        ran("none 2 2;put 0;put 1;", 9, 0, 3, 3, 9, 6, 4, 0, 0, 3, 1);
        ran("three 1 2;put 0;put 1;", 9, 0, 2, 3, 9, 5, 4, 0, 0, 3, 1);
        ran("three 2 2;put 0;put 1;", 9, 0, 3, 3, 9, 6, 4, 0, 0, 3, 1);
        ran("go 2;put 0;put 1;", 9, 0, 2, 3, 9, 5, 4, 0, 0, 3, 1);
        ran("go 3;put 0;put 1;", 9, 0, 1, 3, 9, 5, 3, 0, 0, 3, 1);
        ran("put 0;say 2;put 0;", 9, 1, 2, 1, 2, 6, 3, 0, 0, 3, 1);
        ran("say 0;", 9, 1, 1, 0, 0, 5, 3, 0, 0, 3, 1);
        ran("put 0;end;put 0;", 9, 0, 2, 1, 9, 6, 3, 0, 0, 3, 1);
        ran("empty 0 4;take 0;put 2;go 0;say 3;", 4000, 1, 22, 4, 3, 0, 3, 5, 0, 3, 1);
    }

    private static void failures() {
        ran("take 2;", 9, 2, 0, 0, 9, 5, 3, 0, 0, 3, 1);
        ran("take 1;go 0;", 99, 2, 6, 0, 9, 5, 0, 0, 0, 3, 1);
        ran("put 0;move 2 0;", 9, 2, 1, 1, 9, 6, 3, 0, 0, 3, 1);
        ran("pair 0 2;", 9, 2, 0, 0, 9, 5, 3, 0, 0, 3, 1);
        ran("pair 2 0;", 9, 2, 0, 0, 9, 5, 3, 0, 0, 3, 1);
        ran("up 1;", 9, 2, 0, 0, 9, 5, 3, 0, 0, 3, 1);
        ran("down 0;", 9, 2, 0, 0, 9, 5, 3, 0, 0, 3, 1);
        NothingAboveThree x = Check.in("moves;");
        x.heap(0, BILLION);
        x.heap(1, 1);
        Check.way(x, "put 0;");
        Check.way(x, "move 1 0;");
        Check.way(x, "move 0 1;put 0;");
        Check.due(2, "put to a full heap", () -> x.run(0, 9));
        Check.due(BILLION, "row", () -> x.row(0));
        Check.due(2, "move to a full heap", () -> x.run(1, 9));
        Check.due(1, "nothing of it is done", () -> x.row(1));
        Check.due(0, "move from a full heap", () -> x.run(2, 9));
        Check.due(BILLION, "row", () -> x.row(0));
        Check.due(2, "row", () -> x.row(1));
    }

    private static void limits() {
        ran("put 0;put 1;put 2;", 2, 3, 2, 2, 9, 6, 4, 0, 0, 3, 1);
        ran("put 0;put 1;put 2;", 3, 0, 3, 3, 9, 6, 4, 1, 0, 3, 1);
        ran("put 0;say 1;", 1, 3, 1, 1, 9, 6, 3, 0, 0, 3, 1);
        ran("put 0;say 1;", 2, 1, 2, 1, 1, 6, 3, 0, 0, 3, 1);
        ran("put 0;take 2;", 1, 3, 1, 1, 9, 6, 3, 0, 0, 3, 1);
        ran("put 0;take 2;", 2, 2, 1, 1, 9, 6, 3, 0, 0, 3, 1);
        ran("go 0;", 4000, 3, 4000, 0, 9, 5, 3, 0, 0, 3, 1);
        ran("put 2;go 0;", 4000, 3, 4000, 0, 9, 5, 3, 2000, 0, 3, 1);
        ran("put 0;go 2;", 2, 0, 2, 2, 9, 6, 3, 0, 0, 3, 1);
        ran("put 0;go 2;", 1, 3, 1, 1, 9, 6, 3, 0, 0, 3, 1);
    }

    private static void latest() {
        NothingAboveThree x = Check.in("places 1;");
        Check.due(0, "on without a run", () -> x.on());
        for (int i = 0; i < 4; i++) {
            int what = i;
            Check.due(-1, "ends without a run", () -> x.ends(what));
        }
        Check.due(-1, "row without a run", () -> x.row(1));
        Check.due(-1, "left without a run", () -> x.left(0));
        Check.due(Check.ARGUMENT, "row 2", () -> x.row(2));
        Check.due(Check.ARGUMENT, "row -1", () -> x.row(-1));
        Check.due(Check.ARGUMENT, "left 1", () -> x.left(1));
        Check.due(Check.ARGUMENT, "left -1", () -> x.left(-1));
        Check.due(Check.ARGUMENT, "ends 4", () -> x.ends(4));
        Check.due(Check.ARGUMENT, "ends -1", () -> x.ends(-1));
        Check.way(x, "put 1;up 0;");
        Check.task(x, "1=1;");
        x.run(0, 9);
        x.holds(0, 0);
        x.right(0, 0, 2, 3);
        x.kept(0, 0, 0, 1, 1);
        x.soon(0, 0, 0);
        Check.due(2, "only run() counts", () -> x.ends(1));
        Check.due(1, "row", () -> x.row(1));
        Check.due(1, "on", () -> x.on());
        Check.due(1, "the run stays", () -> x.row(1));
        Check.due(0, "run", () -> x.run(0, 9));
        Check.due(2, "from what was left", () -> x.row(1));
        Check.due(2, "from what was left", () -> x.left(0));
        Check.due(-9, "a fault of a valley", () -> Check.valley(x, "y"));
        Check.due(2, "all stays", () -> x.row(1));
        Check.due(1, "on", () -> x.on());
        Check.due(2, "heap", () -> x.heap(1, 2));
        Check.due(2, "place", () -> x.place(0, 2));
        Check.due(1, "valley", () -> Check.valley(x, "places 1;"));
        Check.due(-1, "ends behind a valley", () -> x.ends(0));
        Check.due(-1, "row behind a valley", () -> x.row(0));
        Check.due(-1, "left behind a valley", () -> x.left(0));
        Check.due(0, "on behind a valley", () -> x.on());
    }

    private static void refusals() {
        NothingAboveThree x = new NothingAboveThree();
        Check.way(x, "put 5;");
        Check.way(x, "put 0;");
        Check.due(Check.INDEX, "no such way", () -> x.run(2, 0));
        Check.due(Check.INDEX, "no such way", () -> x.run(-1, 0));
        Check.due(Check.ARGUMENT, "acts ahead of allowed", () -> x.run(0, 0));
        Check.due(Check.ARGUMENT, "4001 acts", () -> x.run(0, 4001));
        Check.due(Check.STATE, "not allowed", () -> x.run(0, 1));
        Check.due(-1, "no run", () -> x.ends(0));
        Check.due(Check.INDEX, "holds", () -> x.holds(2, 0));
        Check.due(Check.ELEMENT, "holds", () -> x.holds(0, 0));
        Check.task(x, "1=1;");
        Check.due(Check.STATE, "holds", () -> x.holds(0, 0));
        Check.due(Check.ELEMENT, "holds", () -> x.holds(1, 1));
        Check.due(Check.ELEMENT, "holds", () -> x.holds(1, -1));
        Check.due(true, "holds", () -> x.holds(1, 0));
        Check.due(0, "run", () -> x.run(1, 1));
        Check.due(Check.ARGUMENT, "run", () -> x.run(1, 4001));
        Check.due(1, "a refused run changes nothing", () -> x.row(0));
    }

    private static void held(boolean want, String way, String task) {
        NothingAboveThree x = Check.in("heaps 3;places 3;moves;pairs;");
        x.heap(0, 5);
        x.heap(1, 3);
        x.place(1, 3);
        x.place(2, 1);
        Check.way(x, way);
        Check.task(x, task);
        Check.due(want, way + " holds " + task, () -> x.holds(0, 0));
    }

    private static void holding() {
        held(true, "put 0;", "was 0=5;now 0=6;at 1=3;said=9;");
        held(false, "put 0;", "was 0=5;now 0=5;at 1=3;said=9;");
        held(false, "put 0;", "was 0=5;now 0=6;at 1=3;said=8;");
        held(true, "say 3;", "said=3;");
        held(true, "up 0;", "at 0=1;");
        held(false, "take 2;", "1=1;");
        held(false, "go 0;", "1=1;");
        held(true, "end;", "was 11=0;now 11=0;at 23=0;");
        held(true, "end;", "1=2 or 1=1;");
        held(true, "end;", "1=1 or 1=1 and 1=2;");
        held(false, "end;", "[1=1 or 1=1] and 1=2;");
        held(false, "end;", "not 1=1 and 1=2;");
        held(true, "end;", "not [1=1 and 1=2];");
        held(true, "end;", "not 1=1 or 1=1;");
        held(true, "end;", "not not 1=1;");
        held(true, "end;", "1<2;2>1;not 1>1;not 1<1;not 2<1;not 1>2;");
        NothingAboveThree x = new NothingAboveThree();
        Check.way(x, "put 0;empty 1 0;");
        Check.way(x, "put 1;empty 0 3;go 0;take 1;empty 1 6;go 3;say 1;");
        Check.task(x, "1=1;");
        Check.due(false, "not by 2,000 acts", () -> x.holds(0, 0));
        Check.due(true, "behind a loop", () -> x.holds(1, 0));
        NothingAboveThree y = new NothingAboveThree();
        Check.way(y, "empty 0 3;take 0;go 0;");
        Check.task(y, "now 0=0;");
        y.heap(0, 666);
        Check.due(true, "1,999 acts", () -> y.holds(0, 0));
        y.heap(0, 667);
        Check.due(false, "2,002 acts", () -> y.holds(0, 0));
    }

    private static void values() {
        held(true, "end;", "1+2*3=7;(1+2)*3=9;10-2-3=5;100/10/5=2;100/(10/5)=50;7/2=3;");
        held(true, "end;", "0-7=0-(3+4);(0-7)/2=0-3;(0-7)/(0-2)=3;2*3+4*5=26;2+3*4-5=9;");
        held(true, "end;", "5/0=0;0/0=0;(0-5)/0=0;1+5/0=1;8/2*4=16;8*4/2=16;");
        held(true, "end;", "9999*9999*9999*0=0;9999*9999=9998*(9999+1)+1;");
        // 9999*9999*100 is 9998000100 and wraps to 1408065508
        held(true, "end;", "9999*9999*100/(1000*1000)=1408;9999*9999*100-1408*1000*1000=8189*8+(9999-9995)-8;");
        // 2147483647 and one more: the least number, which by -1 stays what it is
        String least = "(0-8192*8192*32)";
        held(true, "end;", least + "/(0-1)=" + least + ";" + least + "<0;" + least + "-1>0;");
        held(true, "end;", "was 0*was 1-now 0+at 1*at 2=13;");
    }
}

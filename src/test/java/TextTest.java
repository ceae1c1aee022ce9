/** Promises 1 to 9: the tape, the three texts, their faults, what is told, acts, what is allowed. */
public final class TextTest {
    public static void main(String[] args) {
        newObject();
        tape();
        valleys();
        valleyFaults();
        ways();
        wayFaults();
        tasks();
        taskFaults();
        fullTapes();
        deepest();
        fullShelves();
        oneFullShelf();
        acts();
        judged();
        Check.end();
    }

    private static void newObject() {
        NothingAboveThree x = new NothingAboveThree();
        int[] told = {2, 0, 24, 3, 0, 0, 0, 0};
        for (int i = 0; i < told.length; i++) {
            int what = i;
            Check.due(told[i], "new told " + i, () -> x.told(what));
        }
        Check.due(Check.ARGUMENT, "told 8", () -> x.told(8));
        Check.due(Check.ARGUMENT, "told -1", () -> x.told(-1));
        Check.due(-1, "new fault", () -> x.fault());
        Check.due(0, "new heap", () -> x.heap(1, 0));
        Check.due(-1, "new ends", () -> x.ends(3));
        for (int i = 0; i < 4; i++) {
            int what = i;
            Check.due(0, "new count", () -> x.count(what));
        }
    }

    private static void tape() {
        NothingAboveThree x = new NothingAboveThree();
        for (int i = 1; i <= 20; i++) {
            Check.due(20 * i, "feed", () -> x.feed(0x20202020, 0x20202020, 0x20202020, 0x20202020, 0x20202020));
        }
        Check.due(-1, "feed too much", () -> x.feed(1, 2, 3, 4, 5));
        Check.due(400, "count 3", () -> x.count(3));
        Check.due(Check.ARGUMENT, "valley 401", () -> x.valley(401));
        Check.due(Check.ARGUMENT, "way -1", () -> x.way(-1));
        Check.due(Check.ARGUMENT, "task 401", () -> x.task(401));
        Check.due(400, "the tape stays", () -> x.count(3));
        Check.due(0, "blanks alone are a valley", () -> x.valley(400));
        Check.due(0, "the tape is empty", () -> x.count(3));
        Check.due(Check.ARGUMENT, "valley 1 of an empty tape", () -> x.valley(1));
        Check.due(0, "valley of nothing", () -> x.valley(0));
        Check.due(20, "the highest byte first", () -> x.feed(0x68656170, 0x7320353b, -1, -1, -1));
        Check.due(1, "heaps 5;", () -> x.valley(8));
        Check.due(5, "told", () -> x.told(0));
        Check.due(20, "feed", () -> x.feed(0xffffffff, 0x80000000, 0, 0, 0));
        Check.due(-9, "high bytes cannot stand", () -> x.valley(20));
        Check.due(0, "fault", () -> x.fault());
    }

    private static void valley(String text, int want, int fault) {
        NothingAboveThree x = new NothingAboveThree();
        Check.due(want, text, () -> Check.valley(x, text));
        Check.due(fault, "fault of " + text, () -> x.fault());
        Check.due(0, "tape behind " + text, () -> x.count(3));
    }

    private static void valleys() {
        NothingAboveThree x = new NothingAboveThree();
        Check.way(x, "put 0;");
        Check.task(x, "1=1;");
        x.heap(1, 7);
        x.run(0, 5);
        x.field(1, 1, 9);
        Check.due(6, "all six", () -> Check.valley(x,
                " heaps 012 ; places 24;mind1;words  0;moves;pairs ;  "));
        int[] told = {12, 24, 1, 0, 1, 1, 1, 1};
        for (int i = 0; i < told.length; i++) {
            int what = i;
            Check.due(told[i], "told " + i, () -> x.told(what));
        }
        Check.due(0, "the flock is 0", () -> x.heap(1, 5));
        Check.due(0, "places are 0", () -> x.place(23, 3));
        Check.due(-1, "no run", () -> x.ends(0));
        Check.due(9, "tables stay", () -> x.field(1, 1, 9));
        Check.due(-9, "a fault", () -> Check.valley(x, "heaps 3;x"));
        Check.due(12, "all stays", () -> x.told(0));
        Check.due(5, "the flock stays", () -> x.heap(1, 5));
        Check.due(1, "one clause", () -> Check.valley(x, "mind 24;"));
        Check.due(2, "without heaps: 2", () -> x.told(0));
        Check.due(0, "without places: 0", () -> x.told(1));
        Check.due(3, "without words: 3", () -> x.told(3));
        Check.due(0, "without pairs", () -> x.told(4));
        valley("", 0, -1);
        valley("words 3;places 0;", 2, -1);
    }

    private static void valleyFaults() {
        valley("heaps 0;", -8, 6);
        valley("heaps 13;", -8, 6);
        valley("places 25;", -8, 7);
        valley("mind 0;", -8, 5);
        valley("mind 25;", -8, 5);
        valley("words 4;", -8, 6);
        valley("words 99999999999999999999999999;", -8, 6);
        valley("words 4294967296;", -8, 6);
        valley("words 00000000000000000003;", 1, -1);
        valley("heaps 3", -9, 7);
        valley("heaps 3   ", -9, 10);
        valley("heaps", -9, 5);
        valley("heaps ;", -9, 6);
        valley("heap 3;", -9, 0);
        valley("heapss 3;", -9, 0);
        valley("Heaps 3;", -9, 0);
        valley("heaps 3,", -9, 7);
        valley("heaps 3 4;", -9, 8);
        valley(";", -9, 0);
        valley("3;", -9, 0);
        valley("pairs;pairs;", -6, 6);
        valley("pairs; pairs", -6, 7);
        valley("heaps 3;places 1;mind 2;words 1;pairs;moves;heaps 99;", -6, 44);
        valley("heaps 3;places 1;mind 2;words 1;pairs;moves;x", -9, 44);
        valley("heaps-1;", -9, 5);
        valley("moves\0;", -9, 5);
    }

    private static void way(String text, int want, int fault) {
        NothingAboveThree x = new NothingAboveThree();
        Check.due(want, text, () -> Check.way(x, text));
        Check.due(fault, "fault of " + text, () -> x.fault());
        Check.due(want == 0 ? 1 : 0, "ways behind " + text, () -> x.count(0));
    }

    private static void ways() {
        way("put 11;take 0;move 0 11;pair 11 0;empty 11 24;up 23;down 23;none 23 24;three 0 0;"
                + "go 24;say 3;end;", 0, -1);
        way("  end  ;  ", 0, -1);
        way("put0;", 0, -1);
        way("empty 0004 000;", 0, -1);
        way("end;".repeat(24), 0, -1);
        way("end;".repeat(24) + "   ", 0, -1);
    }

    private static void wayFaults() {
        way("", -9, 0);
        way("   ", -9, 3);
        way("put 12;", -8, 4);
        way("take 99;", -8, 5);
        way("move 12 1;", -8, 5);
        way("move 1 12;", -8, 7);
        way("move 3 3;", -8, 7);
        way("move 3 03;", -8, 7);
        way("pair 0 0;", -8, 7);
        way("empty 12 0;", -8, 6);
        way("empty 0 25;", -8, 8);
        way("empty 3 3;", 0, -1);
        way("up 24;", -8, 3);
        way("down 24;", -8, 5);
        way("none 24 0;", -8, 5);
        way("none 0 25;", -8, 7);
        way("three 24 0;", -8, 6);
        way("three 1 25;", -8, 8);
        way("go 25;", -8, 3);
        way("say 4;", -8, 4);
        way("end 0;", -9, 4);
        way("put 1 1;", -9, 6);
        way("move 1;", -9, 6);
        way("empty 1", -9, 7);
        way("put x;", -9, 4);
        way("puts 1;", -9, 0);
        way("putz 1;", -9, 0);
        way("put{1;", -9, 3);
        way("put`1;", -9, 3);
        way("put /;", -9, 4);
        way("put :;", -9, 4);
        way("end", -9, 3);
        way("end;;", -9, 4);
        way("end;".repeat(24) + " end", -7, 97);
        way("end;".repeat(24) + " put 99;", -7, 97);
        way("end;".repeat(24) + "ends;", -9, 96);
        way("end;".repeat(24) + "7", -9, 96);
        way("put 0;go 99;end;x", -8, 9);
    }

    private static void task(String text, int want, int fault) {
        NothingAboveThree x = new NothingAboveThree();
        Check.due(want, text, () -> Check.task(x, text));
        Check.due(fault, "fault of " + text, () -> x.fault());
        Check.due(want == 0 ? 1 : 0, "tasks behind " + text, () -> x.count(1));
    }

    private static void tasks() {
        task("1=1;", 0, -1);
        task(" was 11 < now 0 ; at 23>said;", 0, -1);
        task("not not [1=1 and 2=2 or not 3=3];", 0, -1);
        task("((1+2)*3)/4-0=9999;", 0, -1);
        task("((((((1))))))=1;((((((1))))))=1;", 0, -1);
        task("not not not not not not 1=1 and ((((((1))))))=1;", 0, -1);
        task("not [not [not [1=1]]] or not not not not not not 1=1;", 0, -1);
        task("1=1;".repeat(12), 0, -1);
        task("1=1;".repeat(12) + " ", 0, -1);
        task("[[[[[[1=1]]]]]] and [[[[[[1=1]]]]]];", 0, -1);
        task("1=1 and 1=1 and 1=1 or 1=1 or 1=1;", 0, -1);
        task("now1=was0;", 0, -1);
        task("00009999=1;", 0, -1);
    }

    private static void taskFaults() {
        task("", -9, 0);
        task("  ", -9, 2);
        task(";", -9, 0);
        task("1=1", -9, 3);
        task("1=1  ", -9, 5);
        task("1", -9, 1);
        task("1;", -9, 1);
        task("1=;", -9, 2);
        task("=1;", -9, 0);
        task("1=1=1;", -9, 3);
        task("1<1>1;", -9, 3);
        task("1==1;", -9, 2);
        task("10000=1;", -8, 0);
        task("1=10000;", -8, 2);
        task("1=99999999999999999999;", -8, 2);
        task("was 12=1;", -8, 4);
        task("now 12=1;", -8, 4);
        task("at 24=1;", -8, 3);
        task("said 1=1;", -9, 5);
        task("was=1;", -9, 3);
        task("wasnow 1=1;", -9, 0);
        task("(1=1);", -9, 2);
        task("[1]=1;", -9, 2);
        task("[1=1]=1;", -9, 5);
        task("[1=1]+1=1;", -9, 5);
        task("[1=1)];", -9, 4);
        task("(1]=1;", -9, 2);
        task("1=1];", -9, 3);
        task("1)=1;", -9, 1);
        task("1=(1;", -9, 4);
        task("[1=1;", -9, 4);
        task("not;", -9, 3);
        task("1=not 1;", -9, 2);
        task("(not 1)=1;", -9, 1);
        task("([1=1])=1;", -9, 1);
        task("1=[1=1];", -9, 2);
        task("1 and 1=1;", -9, 2);
        task("(1 and 1)=1;", -9, 3);
        task("1=1 and;", -9, 7);
        task("1=1 or or 1=1;", -9, 7);
        task("1=1 nor 1=1;", -9, 4);
        task("1=1 not 1=1;", -9, 4);
        task("1 1=1;", -9, 2);
        task("-1=1;", -9, 0);
        task("1+=1;", -9, 2);
        task("1*/1=1;", -9, 2);
        task("[1=1][1=1];", -9, 5);
        task("[[[[[[[1=1", -7, 6);
        task("(((((((1", -7, 6);
        task("not not not not not not not 1=1;", -7, 24);
        task("not [not (1)=(2) and not [([[", -9, 27);
        task("not [not [(1)=1 and not 1=1", -9, 27);
        task("not [not [(1)=1 and not 1=((", -7, 27);
        task("not [not [not [(", -7, 15);
        task("[[[[[(1)+(1)=(1)*((1", -7, 18);
        task("[[[[[not 1=1]]]]] and [[[[[not (", -7, 31);
        task("[[[[[not 1=1 and not 2=2 or (1)=((", -7, 33);
        task("[[[[[[1=1 and [", -7, 14);
        task("[[[[[[1=[", -9, 8);
        task("1=1;".repeat(12) + " 1=1;", -7, 49);
        task("1=1;".repeat(12) + "9999", -7, 48);
        task("1=1;".repeat(12) + "10000", -8, 48);
        task("1=1;".repeat(12) + "not", -7, 48);
        task("1=1;".repeat(12) + "[", -7, 48);
        task("1=1;".repeat(12) + "(", -7, 48);
        task("1=1;".repeat(12) + "was", -7, 48);
        task("1=1;".repeat(12) + "said", -7, 48);
        task("1=1;".repeat(12) + "end", -9, 48);
        task("1=1;".repeat(12) + ";", -9, 48);
        task("1=1;".repeat(12) + ")", -9, 48);
    }

    /** Texts of 400 bytes, which fill the TAPE: the edge is their end. */
    private static void fullTapes() {
        task("1+".repeat(200), -9, 400);
        task("1*".repeat(200), -9, 400);
        task("(" + "1-".repeat(199) + "1", -9, 400);
        task("((((((" + "1/".repeat(197), -9, 400);
        task("(((((" + "1+".repeat(197) + "1", -9, 400);
        task("[[[[[[" + "1+".repeat(197), -9, 400);
        task("1=1;".repeat(11) + "1+".repeat(178), -9, 400);
        task("1=" + "1+".repeat(199), -9, 400);
        task("1+".repeat(199) + "1=", -9, 400);
        task("1+".repeat(199) + "11", -9, 400);
        task("1+".repeat(199) + "1", -9, 399);
        task("1+".repeat(199) + "1;", -9, 399);
        task("1+".repeat(199) + "1)", -9, 399);
        task("1+".repeat(199) + "++", -9, 398);
        task("1+".repeat(199) + "1 ", -9, 400);
        task("1=1;".repeat(12) + " ".repeat(352), 0, -1);
        task("1=1;".repeat(12) + " ".repeat(351) + "1", -7, 399);
        task("1=1" + " ".repeat(397), -9, 400);
        task("1=1" + " ".repeat(396) + ";", 0, -1);
        task("1=1;1=1" + "+1".repeat(196) + ";", 0, -1);
        task(" ".repeat(400), -9, 400);
        task("0".repeat(400), -9, 400);
        task("9".repeat(400), -8, 0);
        task("a".repeat(400), -9, 0);
        way(" ".repeat(400), -9, 400);
        way("end;".repeat(24) + " ".repeat(304), 0, -1);
        way("end;".repeat(24) + " ".repeat(301) + "end", -7, 397);
        way("end;".repeat(100), -7, 96);
        way("say " + "0".repeat(396), -9, 400);
        way("say " + "0".repeat(394) + "3;", 0, -1);
        way("put 0;".repeat(23) + "end" + " ".repeat(259), -9, 400);
        valley(" ".repeat(400), 0, -1);
        valley("mind " + "0".repeat(395), -8, 5);
        valley("words" + "0".repeat(395), -9, 400);
        valley("pairs;moves" + " ".repeat(389), -9, 400);
        NothingAboveThree x = new NothingAboveThree();
        Check.due(0, "a task of 400 bytes", () -> Check.task(x, "1+".repeat(197) + "1=198;"));
        Check.due(1, "another one", () -> Check.task(x, "1+".repeat(197) + "1=197;"));
        Check.way(x, "end;");
        Check.due(true, "it is worked to its end", () -> x.holds(0, 0));
        Check.due(false, "so is the other one", () -> x.holds(0, 1));
    }

    /** Six open, with as much waiting round each as can be: nothing of it may be lost. */
    private static void deepest() {
        for (int squares = 0; squares <= 6; squares++) {
            int rounds = 6 - squares;
            String begun = "0=1 or 1=1 and [".repeat(squares) + "0=1 or 1=1 and 3>1+1*"
                    + "(0+1*".repeat(rounds);
            String ended = ")".repeat(rounds) + "]".repeat(squares) + ";";
            NothingAboveThree x = new NothingAboveThree();
            Check.due(0, "a deep task", () -> Check.task(x, begun + "1" + ended));
            Check.due(1, "another one", () -> Check.task(x, begun + "2" + ended));
            Check.way(x, "end;");
            Check.due(true, "holds: " + begun + "1" + ended, () -> x.holds(0, 0));
            Check.due(false, "holds: " + begun + "2" + ended, () -> x.holds(0, 1));
            task(begun + "1+(", -7, begun.length() + 2);
        }
    }

    private static void fullShelves() {
        NothingAboveThree x = new NothingAboveThree();
        for (int i = 0; i < 6; i++) {
            Check.due(-9, "a fault while there is room", () -> Check.way(x, "end"));
            Check.due(-8, "a fault while there is room", () -> Check.task(x, "at 24=1;"));
            Check.due(i, "way " + i, () -> Check.way(x, "end;"));
            Check.due(i, "task " + i, () -> Check.task(x, "1=1;"));
        }
        String[] wayTexts = {"end;", "", "   ", "end", "put 12;", "move 1 1;", "end;".repeat(25), "?", "1=1;"};
        for (String text : wayTexts) {
            faultyValley(x);
            Check.due(-1, "a seventh way, whatever the text: " + text, () -> Check.way(x, text));
            Check.due(-1, "no fault where -1 is answered: " + text, () -> x.fault());
            Check.due(0, "the tape is empty", () -> x.count(3));
        }
        String[] taskTexts = {"1=1;", "", " ", "1=1", "at 24=1;", "1=1;".repeat(13), "(((((((1", "]", "end;"};
        for (String text : taskTexts) {
            faultyValley(x);
            Check.due(-1, "a seventh task, whatever the text: " + text, () -> Check.task(x, text));
            Check.due(-1, "no fault where -1 is answered: " + text, () -> x.fault());
            Check.due(0, "the tape is empty", () -> x.count(3));
        }
        faultyValley(x);
        Check.feed(x, "end;");
        Check.due(Check.ARGUMENT, "no such n, with six there", () -> x.way(21));
        Check.due(Check.ARGUMENT, "no such n, with six there", () -> x.task(-1));
        Check.due(20, "the tape stays", () -> x.count(3));
        Check.due(6, "the fault stays", () -> x.fault());
        Check.due(2, "two were refused", () -> x.status(2));
        Check.due(6, "ways", () -> x.told(6));
        Check.due(6, "tasks", () -> x.told(7));
        Check.due(11, "the sixth way is as it was", () -> x.act(5, 0, 0));
        Check.due(-9, "a valley has its fault all the same", () -> x.valley(20));
        Check.due(0, "the place of the valley's fault", () -> x.fault());
    }

    /** A FAULT of an earlier text, which a later text without one must not leave to be told. */
    private static void faultyValley(NothingAboveThree x) {
        Check.due(-8, "a valley's fault with six ways and tasks there", () -> Check.valley(x, "heaps 13;"));
        Check.due(6, "its place", () -> x.fault());
    }

    /** One shelf that is full says nothing of the other one. */
    private static void oneFullShelf() {
        NothingAboveThree x = new NothingAboveThree();
        NothingAboveThree y = new NothingAboveThree();
        for (int i = 0; i < 6; i++) {
            Check.way(x, "end;");
            Check.task(y, "1=1;");
        }
        Check.due(-9, "a task's fault beside six ways", () -> Check.task(x, "1=end;"));
        Check.due(2, "its place", () -> x.fault());
        Check.due(0, "a task beside six ways", () -> Check.task(x, "1=1;"));
        Check.due(-9, "a way's fault beside six tasks", () -> Check.way(y, "end 1=1;"));
        Check.due(4, "its place", () -> y.fault());
        Check.due(0, "a way beside six tasks", () -> Check.way(y, "end;"));
        for (int i = 1; i < 6; i++) {
            y.keep(0, 1, 0, 1, 1);
        }
        Check.due(6, "ways of which five were kept", () -> y.told(6));
        Check.due(-1, "a seventh way, whatever the text", () -> Check.way(y, "end 1=1;"));
        Check.due(-1, "without a fault", () -> y.fault());
    }

    private static void acts() {
        NothingAboveThree x = new NothingAboveThree();
        Check.way(x, "put 11;take 0;move 0 11;pair 11 0;empty 10 24;up 23;down 22;none 21 20;three 0 1;"
                + "go 24;say 3;end;");
        int[][] want = {{0, 11, -1}, {1, 0, -1}, {2, 0, 11}, {3, 11, 0}, {4, 10, 24}, {5, 23, -1},
            {6, 22, -1}, {7, 21, 20}, {8, 0, 1}, {9, 24, -1}, {10, 3, -1}, {11, -1, -1}};
        for (int k = 0; k < want.length; k++) {
            for (int what = 0; what < 3; what++) {
                int at = k;
                int asked = what;
                Check.due(want[k][what], "act " + k + " " + what, () -> x.act(0, at, asked));
            }
        }
        Check.due(Check.INDEX, "act of no way", () -> x.act(1, 99, 99));
        Check.due(Check.INDEX, "act of way -1", () -> x.act(-1, 0, 0));
        Check.due(Check.ELEMENT, "no such act", () -> x.act(0, 12, 99));
        Check.due(Check.ELEMENT, "no such act", () -> x.act(0, -1, 0));
        Check.due(Check.ARGUMENT, "another what", () -> x.act(0, 11, 3));
        Check.due(Check.ARGUMENT, "another what", () -> x.act(0, 0, -1));
    }

    private static void judged(String valley, String way, int want) {
        NothingAboveThree x = Check.in(valley);
        Check.way(x, way);
        Check.due(want, "judge in " + valley + " of " + way, () -> x.judge(0));
        Check.due(want == -1 ? "false" : Check.STATE, "run in " + valley + " of " + way,
                () -> x.run(0, 9) < 0);
    }

    private static void judged() {
        String all = "heaps 3;places 2;moves;pairs;words 2;";
        judged(all, "put 2;take 2;end;", -1);
        judged(all, "put 2;put 3;", 1);
        judged(all, "take 3;", 0);
        judged(all, "move 0 2;pair 2 1;", -1);
        judged(all, "move 0 3;", 0);
        judged(all, "move 3 0;", 0);
        judged(all, "pair 0 3;", 0);
        judged(all, "pair 3 0;", 0);
        judged("heaps 3;pairs;", "pair 0 1;move 0 1;", 1);
        judged("heaps 3;moves;", "move 0 1;pair 0 1;", 1);
        judged(all, "empty 2 1;", -1);
        judged(all, "empty 3 1;", 0);
        judged(all, "empty 2 2;", 0);
        judged(all, "up 1;down 1;", -1);
        judged(all, "up 2;", 0);
        judged(all, "down 2;", 0);
        judged(all, "none 1 1;", -1);
        judged(all, "none 2 1;", 0);
        judged(all, "none 1 2;", 0);
        judged(all, "three 1 1;", -1);
        judged(all, "three 2 1;", 0);
        judged(all, "three 1 2;", 0);
        judged(all, "go 1;", -1);
        judged(all, "go 2;", 0);
        judged(all, "end;go 2;", -1);
        judged(all, "say 2;", -1);
        judged(all, "say 3;", 0);
        judged("words 0;", "say 0;say 1;", 1);
        judged("mind 2;", "end;end;", -1);
        judged("mind 2;", "end;end;end;", 2);
        judged("mind 2;", "end;end;put 9;put 9;", 2);
        judged("mind 2;", "end;put 9;end;", 1);
        NothingAboveThree x = new NothingAboveThree();
        Check.due(Check.INDEX, "judge of no way", () -> x.judge(0));
    }
}

/** Promises 1 to 9 and the bounds of the three texts: each sentence that names an edge, on both sides of it. */
public final class TextEdgesTest {
    private static final int LEAST = Integer.MIN_VALUE;
    private static final int MOST = Integer.MAX_VALUE;

    public static void main(String[] args) {
        newObject();
        feed();
        tapeBytes();
        numberOfBytes();
        valleyBounds();
        valleyWithout();
        valleyStays();
        wayBounds();
        wayLength();
        wayStays();
        taskBounds();
        taskLength();
        taskOpen();
        taskStays();
        nothingLeft();
        six();
        fault();
        blanks();
        wrapAround();
        told();
        act();
        judgeBounds();
        judgeMind();
        judge();
        Check.end();
    }

    /** Promise 1: all is as it is "at first". */
    private static void newObject() {
        Twins.Call[] calls = {x -> x.told(0), x -> x.told(1), x -> x.told(2), x -> x.told(3), x -> x.told(4),
            x -> x.told(5), x -> x.told(6), x -> x.told(7), x -> x.fault(), x -> x.heap(0, 0), x -> x.heap(1, 0),
            x -> x.ends(0), x -> x.row(0), x -> x.on(), x -> x.field(0, 0, 0), x -> x.field(5, 3, 0),
            x -> x.mark(0, 0, false), x -> x.mark(5, 5, false), x -> x.rate(0, 1, 0, 0), x -> x.rate(5, 4, 0, 0),
            x -> x.knows(2, -1), x -> x.knows(9, -1), x -> x.restore(), x -> x.status(0), x -> x.status(1),
            x -> x.status(2), x -> x.status(3), x -> x.count(0), x -> x.count(1), x -> x.count(2), x -> x.count(3)};
        Object[] want = {2, 0, 24, 3, 0, 0, 0, 0, -1, 0, 0, -1, -1, 0, 0, 0, false, false, 0, 0, -1, -1, -1, 0, 0, 0,
            0, 0, 0, 0, 0};
        for (int i = 0; i < calls.length; i++) {
            Twins.taken(want[i], "promise 1, call " + i, NothingAboveThree::new, calls[i]);
        }
        Twins.refused(Check.ARGUMENT, "promise 1: a third HEAP", NothingAboveThree::new, x -> x.heap(2, 0));
        Twins.refused(Check.ARGUMENT, "promise 1: a PLACE", NothingAboveThree::new, x -> x.place(0, 0));
        Twins.refused(Check.INDEX, "promise 1: a WAY", NothingAboveThree::new, x -> x.judge(0));
        Twins.refused(Check.ELEMENT, "promise 1: a TASK", NothingAboveThree::new, x -> x.find(0, 1, 0, 1, 1, 0));
    }

    /** An object whose TAPE holds blanks up to so many bytes. */
    private static NothingAboveThree fed(int bytes) {
        NothingAboveThree x = Twins.scene();
        x.valley(0);
        Check.feed(x, " ".repeat(bytes));
        return x;
    }

    /** Promise 2: "NONE, doing nothing, if there would be more than 400." */
    private static void feed() {
        Twins.taken(20, "promise 2: the first 20", () -> fed(0), x -> x.feed(0, 0, 0, 0, 0));
        Twins.taken(40, "promise 2: 20 more", () -> fed(20), x -> x.feed(-1, -1, -1, -1, -1));
        Twins.taken(380, "promise 2: the 19th", () -> fed(360), x -> x.feed(LEAST, MOST, LEAST, MOST, 0));
        Twins.taken(400, "promise 2: 400 are taken", () -> fed(380), x -> x.feed(0, 0, 0, 0, 0));
        Twins.still(-1, "promise 2: more than 400", () -> fed(400), x -> x.feed(0, 0, 0, 0, 0));
        Twins.still(-1, "promise 2: more than 400", () -> fed(400), x -> x.feed(-1, LEAST, MOST, 1, 0x706169));
        NothingAboveThree x = fed(400);
        x.feed(1, 1, 1, 1, 1);
        Check.due(400, "promise 2: NONE adds no byte", () -> x.count(3));
        Check.due(0, "promise 2: the text is as it was", () -> x.valley(400));
        Check.due(20, "promise 2: there is room again", () -> x.feed(1, 1, 1, 1, 1));
    }

    /** Promise 2: "Twenty bytes .., of each number the highest first": each of the twenty stands where it is due. */
    private static void tapeBytes() {
        for (int i = 0; i < 20; i++) {
            int at = i;
            int[] five = {0x20202020, 0x20202020, 0x20202020, 0x20202020, 0x20202020};
            five[i / 4] ^= 0xa0 << 24 - 8 * (i % 4);
            Twins.taken(-9, "promise 2: byte " + i, NothingAboveThree::new, x -> {
                x.feed(five[0], five[1], five[2], five[3], five[4]);
                return x.valley(20);
            });
            NothingAboveThree x = new NothingAboveThree();
            x.feed(five[0], five[1], five[2], five[3], five[4]);
            x.valley(20);
            Check.due(at, "promise 2: its place", () -> x.fault());
        }
    }

    /** Promises 3 to 5: "IllegalArgumentException: n is not 0 to the TAPE's bytes (it stays)." */
    private static void numberOfBytes() {
        for (int n : new int[] {-1, 21, 400, LEAST, MOST}) {
            Twins.refused(Check.ARGUMENT, "promise 3: n " + n, x -> x.valley(n));
            Twins.refused(Check.ARGUMENT, "promise 4: n " + n, x -> x.way(n));
            Twins.refused(Check.ARGUMENT, "promise 5: n " + n, x -> x.task(n));
        }
        for (int n : new int[] {-1, 401, LEAST, MOST}) {
            Twins.refused(Check.ARGUMENT, "promise 3: n " + n + " of 400", () -> fed(400), x -> x.valley(n));
            Twins.refused(Check.ARGUMENT, "promise 4: n " + n + " of 400", () -> fed(400), x -> x.way(n));
            Twins.refused(Check.ARGUMENT, "promise 5: n " + n + " of 400", () -> fed(400), x -> x.task(n));
        }
        for (int n : new int[] {-1, 1, 20}) {
            Twins.refused(Check.ARGUMENT, "promise 3: n " + n + " of none", () -> fed(0), x -> x.valley(n));
            Twins.refused(Check.ARGUMENT, "promise 4: n " + n + " of none", () -> fed(0), x -> x.way(n));
            Twins.refused(Check.ARGUMENT, "promise 5: n " + n + " of none", () -> fed(0), x -> x.task(n));
        }
        Twins.taken(0, "promise 3: n 0", x -> x.valley(0));
        Twins.taken(1, "promise 3: n as many as there are", x -> x.valley(20));
        Twins.taken(0, "promise 3: n 0 of none", () -> fed(0), x -> x.valley(0));
        Twins.taken(0, "promise 3: n 400", () -> fed(400), x -> x.valley(400));
        Twins.taken(-9, "promise 4: n 0", x -> x.way(0));
        Twins.taken(-9, "promise 4: n 400", () -> fed(400), x -> x.way(400));
        Twins.taken(-9, "promise 5: n 0", x -> x.task(0));
        Twins.taken(-9, "promise 5: n 400", () -> fed(400), x -> x.task(400));
        Twins.taken("1 0", "promise 3: empty then, behind n, too", x -> x.valley(8) + " " + x.count(3));
        Twins.taken("-9 0", "promise 3: empty behind a FAULT", x -> x.valley(1) + " " + x.count(3));
        Twins.taken("-9 0", "promise 4: empty behind a FAULT", x -> x.way(1) + " " + x.count(3));
        Twins.taken("-9 0", "promise 5: empty behind a FAULT", x -> x.task(1) + " " + x.count(3));
    }

    private static void valley(String text, int want, int fault) {
        NothingAboveThree x = new NothingAboveThree();
        Check.due(want, "promise 3: " + text, () -> Check.valley(x, text));
        Check.due(fault, "promise 3: the place in " + text, () -> x.fault());
    }

    private static void told(String text, int what, int want) {
        NothingAboveThree x = new NothingAboveThree();
        Check.due(1, "promise 3: " + text, () -> Check.valley(x, text));
        Check.due(want, "promise 3: told by " + text, () -> x.told(what));
    }

    /** VALLEY: heaps 1 to 12, places 0 to 24, mind 1 to 24, words 0 to 3; each once at most. */
    private static void valleyBounds() {
        String[] words = {"heaps", "places", "mind", "words"};
        int[] least = {1, 0, 1, 0};
        int[] most = {12, 24, 24, 3};
        for (int i = 0; i < 4; i++) {
            int behind = words[i].length() + 1;
            told(words[i] + " " + least[i] + ";", i, least[i]);
            told(words[i] + " " + most[i] + ";", i, most[i]);
            if (least[i] == 1) {
                valley(words[i] + " 0;", -8, behind);
            }
            valley(words[i] + " -1;", -9, behind);
            valley(words[i] + " " + (most[i] + 1) + ";", -8, behind);
            valley(words[i] + " 2147483648;", -8, behind);
            valley(words[i] + " 4294967297;", -8, behind);
            valley(words[i] + ";", -9, behind - 1);
            valley(words[i] + " 1;" + words[i] + " 1;", -6, behind + 2);
            valley(words[i] + " 1;" + words[i] + " 99;", -6, behind + 2);
        }
        told("pairs;", 4, 1);
        told("moves;", 5, 1);
        valley("pairs;pairs;", -6, 6);
        valley("moves; moves;", -6, 7);
        valley("pairs 0;", -9, 6);
        valley("heaps 3;places 3;mind 3;words 3;pairs;moves;", 6, -1);
        valley("heaps 3;places 3;mind 3;words 3;pairs;moves;mind 3;", -6, 44);
        valley("", 0, -1);
    }

    /** VALLEY: "without: 2, 0, 24, 3, no pairs, no moves". */
    private static void valleyWithout() {
        int[] without = {2, 0, 24, 3, 0, 0};
        for (int i = 0; i < 6; i++) {
            int what = i;
            Twins.taken("0 " + without[i], "promise 3: of none, told " + i, x -> x.valley(0) + " " + x.told(what));
        }
        NothingAboveThree x = emptied();
        Check.valley(x, "words 1;");
        int[] want = {2, 0, 24, 1, 0, 0, 3, 2};
        for (int i = 0; i < 8; i++) {
            int what = i;
            Check.due(want[i], "promise 3: of one, told " + i, () -> x.told(what));
        }
    }

    /** Promise 3: "THE FLOCK is 0; WAYS, TASKS, tables stay", and of a FAULT: "all stays". */
    private static void valleyStays() {
        NothingAboveThree x = Twins.scene();
        x.valley(20);
        Twins.Call[] calls = {y -> y.heap(0, 0), y -> y.heap(3, 0), y -> y.count(0), y -> y.count(1), y -> y.count(2),
            y -> y.act(1, 0, 1), y -> y.field(0, 0, 0), y -> y.mark(0, 1, false), y -> y.rate(1, 0, 0, 0),
            y -> y.knows(5, -1), y -> y.ends(0), y -> y.row(3), y -> y.on(), y -> y.status(3), y -> y.fault()};
        Object[] want = {0, 0, 3, 2, 1, 3, 7, true, 403, 3, -1, -1, 0, 1, -1};
        for (int i = 0; i < calls.length; i++) {
            Twins.Call call = calls[i];
            Check.due(want[i], "promise 3: behind a VALLEY, call " + i, () -> call.on(x));
        }
        for (String text : new String[] {"heaps 4;x", "places 25;", "mind 7;mind 7;", "pairs", "words 1;heaps 0;"}) {
            faultStays("promise 3: " + text, y -> Check.valley(y, text));
        }
    }

    /** Of a text with a FAULT all stays, but the TAPE, which is empty, and the FAULT itself. */
    private static void faultStays(String what, Twins.Call call) {
        NothingAboveThree x = emptied();
        NothingAboveThree y = emptied();
        Check.due(true, what, () -> (int) call.on(x) < -5);
        Check.valley(x, "heaps 13;");
        Check.due("", what + ": what it changed", () -> Twins.difference(x, y));
    }

    /** A scene without a byte on its TAPE; the latest text has a FAULT at 6. */
    private static NothingAboveThree emptied() {
        NothingAboveThree x = Twins.scene();
        x.task(0);
        Check.valley(x, "heaps 13;");
        return x;
    }

    private static void way(String text, int want, int fault) {
        NothingAboveThree x = new NothingAboveThree();
        Check.due(want, "promise 4: " + text, () -> Check.way(x, text));
        Check.due(fault, "promise 4: the place in " + text, () -> x.fault());
    }

    /** WAY: H 0 to 11, P 0 to 23, A 0 to 24, N 0 to 3; of move and pair not the same H. */
    private static void wayBounds() {
        String[][] firsts = {{"put", "11"}, {"take", "11"}, {"up", "23"}, {"down", "23"}, {"go", "24"}, {"say", "3"}};
        for (String[] f : firsts) {
            int behind = f[0].length() + 1;
            way(f[0] + " 0;", 0, -1);
            way(f[0] + " " + f[1] + ";", 0, -1);
            way(f[0] + " " + (Integer.parseInt(f[1]) + 1) + ";", -8, behind);
            way(f[0] + " -1;", -9, behind);
            way(f[0] + " 4294967296;", -8, behind);
            way(f[0] + ";", -9, behind - 1);
            way(f[0] + " 0 0;", -9, behind + 2);
        }
        String[][] seconds = {{"move", "11", "11"}, {"pair", "11", "11"}, {"empty", "11", "24"}, {"none", "23", "24"},
            {"three", "23", "24"}};
        for (String[] s : seconds) {
            int behind = s[0].length() + 1;
            int beyondFirst = Integer.parseInt(s[1]) + 1;
            int beyondSecond = Integer.parseInt(s[2]) + 1;
            way(s[0] + " " + s[1] + " 0;", 0, -1);
            way(s[0] + " 0 " + s[2] + ";", 0, -1);
            way(s[0] + " " + beyondFirst + " 0;", -8, behind);
            way(s[0] + " 0 " + beyondSecond + ";", -8, behind + 2);
            way(s[0] + " " + beyondFirst + " " + beyondSecond + ";", -8, behind);
            way(s[0] + " 0;", -9, behind + 1);
            way(s[0] + " 0 1 2;", -9, behind + 4);
        }
        for (String same : new String[] {"move", "pair"}) {
            way(same + " 0 0;", -8, 7);
            way(same + " 11 11;", -8, 8);
            way(same + " 10 11;", 0, -1);
            way(same + " 11 10;", 0, -1);
        }
        way("empty 0 0;", 0, -1);
        way("none 0 0;", 0, -1);
        way("three 0 0;", 0, -1);
        way("end 0;", -9, 4);
    }

    /** WAY: "1 to 24" ACTS; FAULT 3: an ACT too many; FAULT 1: at the length, of none. */
    private static void wayLength() {
        way("", -9, 0);
        way(" ".repeat(7), -9, 7);
        way("end;", 0, -1);
        way("end;".repeat(23), 0, -1);
        way("end;".repeat(24), 0, -1);
        way("end;".repeat(25), -7, 96);
        way("end;".repeat(24) + "   go 99", -7, 99);
        way("end;".repeat(24) + "e", -9, 96);
        way("end;".repeat(23) + "end", -9, 95);
        NothingAboveThree x = emptied();
        Check.way(x, "end;".repeat(23) + "go 7;");
        Check.due(9, "promise 4: the 24th ACT", () -> x.act(3, 23, 0));
        Check.due(Check.ELEMENT, "promise 4: no 25th", () -> x.act(3, 24, 0));
    }

    private static void wayStays() {
        for (String text : new String[] {"", "put 12;", "move 1 1;", "end;".repeat(25), "put 0;put 0;put", "ends;"}) {
            faultStays("promise 4: " + text, y -> Check.way(y, text));
        }
        Twins.taken(3, "promise 4: its number, from 0 on", TextEdgesTest::emptied, x -> Check.way(x, "end;"));
        Twins.taken(0, "promise 4: its number, from 0 on", NothingAboveThree::new, x -> Check.way(x, "end;"));
    }

    private static void task(String text, int want, int fault) {
        NothingAboveThree x = new NothingAboveThree();
        Check.due(want, "promise 5: " + text, () -> Check.task(x, text));
        Check.due(fault, "promise 5: the place in " + text, () -> x.fault());
    }

    /** TASK: N 0 to 9,999, was H and now H 0 to 11, at P 0 to 23. */
    private static void taskBounds() {
        task("0=0;", 0, -1);
        task("9999=0;", 0, -1);
        task("10000=0;", -8, 0);
        task("0=9999;", 0, -1);
        task("0=10000;", -8, 2);
        task("0=4294967296;", -8, 2);
        task("0=-1;", -9, 2);
        String[][] some = {{"was", "11"}, {"now", "11"}, {"at", "23"}};
        for (String[] s : some) {
            int behind = s[0].length() + 1;
            task(s[0] + " 0=0;", 0, -1);
            task(s[0] + " " + s[1] + "=0;", 0, -1);
            task(s[0] + " " + (Integer.parseInt(s[1]) + 1) + "=0;", -8, behind);
            task(s[0] + " 10000=0;", -8, behind);
            task(s[0] + "=0;", -9, behind - 1);
            task("0=" + s[0] + " " + s[1] + ";", 0, -1);
            task("0=" + s[0] + " " + (Integer.parseInt(s[1]) + 1) + ";", -8, behind + 2);
        }
        task("said=0;", 0, -1);
        task("said 0=0;", -9, 5);
    }

    /** TASK: 1 to 12 C; FAULT 3: a C too many. */
    private static void taskLength() {
        task("", -9, 0);
        task(" ".repeat(5), -9, 5);
        task("1=1;", 0, -1);
        task("1=1;".repeat(11), 0, -1);
        task("1=1;".repeat(12), 0, -1);
        task("1=1;".repeat(13), -7, 48);
        task("1=1;".repeat(12) + "   1", -7, 51);
        task("1=1;".repeat(12) + "   x", -9, 51);
        task("1=1;".repeat(11) + "1=1", -9, 47);
        NothingAboveThree x = emptied();
        Check.task(x, "1=1;".repeat(11) + "1=2;");
        Check.due(false, "promise 5: the 12th C counts", () -> x.holds(0, 2));
        Check.due(true, "promise 5: there all do", () -> Check.task(x, "1=1;".repeat(12)) == 3 && x.holds(0, 3));
    }

    /** FAULT 3: "a 7th of ( [ and not that is open at one time (a not till its B ends)". */
    private static void taskOpen() {
        task("((((((1))))))=1;", 0, -1);
        task("(((((((1)))))))=1;", -7, 6);
        task("[[[[[[1=1]]]]]];", 0, -1);
        task("[[[[[[[1=1]]]]]]];", -7, 6);
        task("not ".repeat(6) + "1=1;", 0, -1);
        task("not ".repeat(7) + "1=1;", -7, 24);
        task("not [not [(((((1", -7, 12);
        task("not [not [((1))=1]];", 0, -1);
        task("not [not [((1))=1 and not 1=1]];", 0, -1);
        task("not [not [((1))=1 and not (1)=1]];", 0, -1);
        task("not [not [((1))=1 and not ((1))=1]];", -7, 27);
        task("not ".repeat(6) + "1=1 and " + "not ".repeat(6) + "1=1;", 0, -1);
        task("not ".repeat(6) + "1=1 or ((((((1))))))=1;", 0, -1);
        task("not ".repeat(6) + "1=1;((((((1))))))=1;", 0, -1);
        task("not ".repeat(6) + "(1)=1;", -7, 24);
        task("not ".repeat(6) + "[1=1];", -7, 24);
        task("not ".repeat(6) + "1=(1);", -7, 26);
        task("((((((1))))))*((((((1))))))=((((((1))))))/1;", 0, -1);
        task("((((((1+(1))))))))=1;", -7, 8);
    }

    private static void taskStays() {
        for (String text : new String[] {"", "1=10000;", "(((((((1", "1=1;".repeat(13), "1=1;1=1", "[1=1;"}) {
            faultStays("promise 5: " + text, y -> Check.task(y, text));
        }
        Twins.taken(2, "promise 5: its number, from 0 on", TextEdgesTest::emptied, x -> Check.task(x, "1=1;"));
        Twins.taken(0, "promise 5: its number, from 0 on", NothingAboveThree::new, x -> Check.task(x, "1=1;"));
    }

    /** A text with a FAULT leaves nothing of itself to the next one. */
    private static void nothingLeft() {
        String[] faulty = {"((((((1", "[[[[[[1=1", "not not not not not not 1=1", "1=1 or 1=2 and not [1+2*", "1<1 and 2",
            "1=1;".repeat(12) + "1", "1=2;(1+1)*"};
        for (String text : faulty) {
            NothingAboveThree x = new NothingAboveThree();
            Check.due(true, "promise 5: a FAULT of " + text, () -> Check.task(x, text) < -5);
            Check.due(0, "promise 5: behind " + text, () -> Check.task(x, "((((((1))))))=1 and not [not [[[1=2]]]];"));
            Check.due(1, "promise 5: behind " + text, () -> Check.task(x, "1<1+1;".repeat(12)));
            Check.way(x, "end;");
            Check.due(false, "promise 17: behind " + text, () -> x.holds(0, 0));
            Check.due(true, "promise 17: behind " + text, () -> x.holds(0, 1));
        }
        NothingAboveThree x = new NothingAboveThree();
        Check.way(x, "put 1;".repeat(23) + "put");
        Check.due(0, "promise 4: behind a FAULT", () -> Check.way(x, "take 1;end;"));
        Check.due(1, "promise 8: the first ACT is its own", () -> x.act(0, 0, 0));
        Check.due(Check.ELEMENT, "promise 8: of two", () -> x.act(0, 2, 0));
        Check.valley(x, "heaps 9;places 9;pairs;moves");
        Check.due(1, "promise 3: behind a FAULT", () -> Check.valley(x, "pairs;"));
        Check.due("2 0 1 0", "promise 3: without", () -> x.told(0) + " " + x.told(1) + " " + x.told(4) + " " + x.told(5));
    }

    /** An object with so many WAYS and TASKS. */
    private static NothingAboveThree shelved(int ways, int tasks) {
        NothingAboveThree x = new NothingAboveThree();
        for (int i = 0; i < ways; i++) {
            Check.way(x, "end;");
        }
        for (int i = 0; i < tasks; i++) {
            Check.task(x, "1=1;");
        }
        return x;
    }

    /** Promises 4 and 5: "-1: there are 6." */
    private static void six() {
        Twins.taken(5, "promise 4: the sixth", () -> shelved(5, 6), x -> Check.way(x, "end;"));
        Twins.taken(-1, "promise 4: there are 6", () -> shelved(6, 0), x -> Check.way(x, "end;"));
        Twins.taken(-1, "promise 4: there are 6, of a FAULT", () -> shelved(6, 0), x -> x.way(0));
        Twins.taken(-9, "promise 4: a FAULT beside 5", () -> shelved(5, 6), x -> x.way(0));
        Twins.taken(5, "promise 5: the sixth", () -> shelved(6, 5), x -> Check.task(x, "1=1;"));
        Twins.taken(-1, "promise 5: there are 6", () -> shelved(0, 6), x -> Check.task(x, "1=1;"));
        Twins.taken(-1, "promise 5: there are 6, of a FAULT", () -> shelved(0, 6), x -> x.task(0));
        Twins.taken(-9, "promise 5: a FAULT beside 5", () -> shelved(6, 5), x -> x.task(0));
        Twins.still(-1, "promise 4: -1 adds none", () -> shelved(6, 6), x -> x.way(0));
        Twins.still(-1, "promise 5: -1 adds none", () -> shelved(6, 6), x -> x.task(0));
        Twins.refused(Check.ARGUMENT, "promise 4: n, with 6 there", () -> shelved(6, 6), x -> x.way(1));
        Twins.refused(Check.ARGUMENT, "promise 5: n, with 6 there", () -> shelved(6, 6), x -> x.task(-1));
    }

    /** Promise 6: "The place of the FAULT of the latest text; NONE without." */
    private static void fault() {
        Twins.still(6, "promise 6: of the latest text", x -> x.fault());
        Twins.still(-1, "promise 6: ahead of any text", NothingAboveThree::new, x -> x.fault());
        NothingAboveThree x = new NothingAboveThree();
        Check.due(-9, "a FAULT at the first byte", () -> Check.valley(x, "?"));
        Check.due(0, "promise 6: the first byte", () -> x.fault());
        Check.answer(() -> x.way(1));
        Check.due(0, "promise 6: a refused call has no text", () -> x.fault());
        Check.feed(x, "end;");
        Check.due(0, "promise 6: feeding is no text", () -> x.fault());
        Check.due(0, "a WAY", () -> x.way(4));
        Check.due(-1, "promise 6: without", () -> x.fault());
        Check.due(-9, "a TASK that ends too early", () -> Check.task(x, "1=1" + " ".repeat(397)));
        Check.due(400, "promise 6: the length", () -> x.fault());
        Check.due(0, "a VALLEY", () -> x.valley(0));
        Check.due(-1, "promise 6: without", () -> x.fault());
        // two FAULTS: the first from the left; at one byte the least
        valley("heaps 13;mind 25;", -8, 6);
        valley("mind 2;mind 25", -6, 7);
        way("put 12;x", -8, 4);
        task("1=10000;x", -8, 2);
        task("1=1;".repeat(12) + "10000=1;", -8, 48);
        way("end;".repeat(24) + "put 12;", -7, 96);
    }

    /** "Blanks (32) may stand ahead of all these, and at the end": no other byte may, and within no word or number. */
    private static void blanks() {
        valley("  heaps   3  ;  pairs  ;  ", 2, -1);
        way("  move   1   0  ;  end  ;  ", 0, -1);
        task("  not  [  (  1  +  was  2  )  *  2  <  3  ]  or  at  0  >  1  ;  ", 0, -1);
        for (char c : new char[] {0, 9, 10, 13, 31, 33, 127, 128, 160, 255}) {
            valley(c + "pairs;", -9, 0);
            valley("pairs;" + c, -9, 6);
            way("end;" + c, -9, 4);
            task("1=1;" + c, -9, 4);
        }
        valley("hea ps 3;", -9, 0);
        valley("heaps 1 2;", -9, 8);
        way("e nd;", -9, 0);
        task("1 0=1;", -9, 2);
        task("no t 1=1;", -9, 0);
        // small letters and digits as many as stand there: what lies just beside them is none
        for (char c : new char[] {'`', '{', 'A', 'Z', '/', ':'}) {
            way("end" + c + ";", -9, 3);
            way("put 1" + c + ";", -9, 5);
        }
        way("aend;", -9, 0);
        way("endz;", -9, 0);
        way("put 09;", 0, -1);
    }

    /** Numbers of any length: none comes back by wrapping round. */
    private static void wrapAround() {
        for (String number : new String[] {"256", "65536", "2147483648", "4294967296", "4294967297",
            "18446744073709551616", "1" + "0".repeat(100), "9".repeat(300)}) {
            valley("words " + number + ";", -8, 6);
            way("say " + number + ";", -8, 4);
            way("empty 0 " + number + ";", -8, 8);
            task("now " + number + "=0;", -8, 4);
        }
        for (String number : new String[] {"65536", "100000", "2147483648", "4294967296", "9".repeat(300)}) {
            task(number + "=0;", -8, 0);
        }
        valley("words " + "0".repeat(300) + "3;", 1, -1);
        way("go " + "0".repeat(300) + "24;", 0, -1);
        task("0".repeat(300) + "9999=9999;", 0, -1);
    }

    /** Promise 7: "IllegalArgumentException: another what". */
    private static void told() {
        int[] want = {3, 3, 5, 2, 1, 1, 3, 2};
        for (int i = 0; i < 8; i++) {
            int what = i;
            Twins.still(want[i], "promise 7: " + i, x -> x.told(what));
        }
        for (int what : new int[] {-1, 8, LEAST, MOST}) {
            Twins.refused(Check.ARGUMENT, "promise 7: " + what, x -> x.told(what));
        }
    }

    /** Promise 8: no such WAY, then no such ACT, then another what. */
    private static void act() {
        Twins.still(1, "promise 8: the first of the first", x -> x.act(0, 0, 0));
        Twins.still(10, "promise 8: the last of the last", x -> x.act(2, 2, 0));
        Twins.still(2, "promise 8: its number", x -> x.act(2, 2, 1));
        Twins.still(-1, "promise 8: NONE without", x -> x.act(2, 2, 2));
        for (int way : new int[] {-1, 3, LEAST, MOST}) {
            Twins.refused(Check.INDEX, "promise 8: WAY " + way, x -> x.act(way, 0, 0));
            Twins.refused(Check.INDEX, "promise 8: WAY " + way + " ahead of all", x -> x.act(way, -1, 3));
        }
        for (int k : new int[] {-1, 3, 24, LEAST, MOST}) {
            Twins.refused(Check.ELEMENT, "promise 8: ACT " + k, x -> x.act(2, k, 0));
            Twins.refused(Check.ELEMENT, "promise 8: ACT " + k + " ahead of what", x -> x.act(2, k, 3));
        }
        for (int what : new int[] {-1, 3, LEAST, MOST}) {
            Twins.refused(Check.ARGUMENT, "promise 8: what " + what, x -> x.act(2, 2, what));
        }
        Twins.refused(Check.ELEMENT, "promise 8: of a WAY of one", x -> x.act(1, 1, 0));
        Twins.refused(Check.INDEX, "promise 8: of none", NothingAboveThree::new, x -> x.act(0, 0, 0));
        Twins.refused(Check.INDEX, "promise 8: of 6", () -> shelved(6, 0), x -> x.act(6, 0, 0));
        Twins.still(11, "promise 8: the sixth", () -> shelved(6, 0), x -> x.act(5, 0, 0));
    }

    private static void judged(String valley, String way, int want) {
        NothingAboveThree x = Check.in(valley);
        Check.way(x, way);
        Check.due(want, "promise 9: " + way + " in " + valley, () -> x.judge(0));
        Check.due(want == -1 ? "false" : Check.STATE, "promise 12: " + way + " in " + valley, () -> x.run(0, 1) < 0);
    }

    /** ALLOWED: "each H below heaps, P below places, N no more than words, ..; A no more than how many ACTS it has". */
    private static void judgeBounds() {
        for (int heaps : new int[] {1, 2, 11}) {
            String valley = "heaps " + heaps + ";pairs;moves;";
            for (String one : new String[] {"put ", "take ", "empty "}) {
                String rest = one.equals("empty ") ? " 0;" : ";";
                judged(valley, one + (heaps - 1) + rest, -1);
                judged(valley, one + heaps + rest, 0);
            }
            for (String two : new String[] {"move ", "pair "}) {
                judged(valley, two + "0 " + heaps + ";", 0);
                judged(valley, two + heaps + " 0;", 0);
                if (heaps > 1) {
                    judged(valley, two + "0 " + (heaps - 1) + ";", -1);
                    judged(valley, two + (heaps - 1) + " 0;", -1);
                }
            }
        }
        judged("heaps 12;moves;pairs;", "put 11;take 11;move 11 10;move 10 11;pair 11 10;pair 10 11;empty 11 7;", -1);
        for (int places : new int[] {0, 1, 23}) {
            for (String one : new String[] {"up ", "down ", "none ", "three "}) {
                String rest = one.length() > 4 && !one.equals("down ") ? " 0;" : ";";
                judged("places " + places + ";", one + places + rest, 0);
                judged("places " + (places + 1) + ";", one + places + rest, -1);
            }
        }
        for (int words = 0; words < 3; words++) {
            judged("words " + words + ";", "say " + words + ";", -1);
            judged("words " + words + ";", "say " + (words + 1) + ";", 0);
        }
        judged("words 3;", "say 3;", -1);
        for (String jump : new String[] {"go ", "empty 0 ", "none 0 ", "three 0 "}) {
            judged("places 1;", jump + "0;", -1);
            judged("places 1;", jump + "1;", -1);
            judged("places 1;", jump + "2;", 0);
            judged("places 1;", "end;".repeat(23) + jump + "24;", -1);
            judged("places 1;", "end;".repeat(22) + jump + "24;", 22);
            judged("places 1;", jump + "23;" + "end;".repeat(22), -1);
        }
        judged("pairs;moves;", "pair 0 1;move 0 1;", -1);
        judged("pairs;", "pair 0 1;move 0 1;", 1);
        judged("moves;", "move 0 1;pair 0 1;", 1);
    }

    /** ALLOWED: "no more of these than mind"; promise 9: "that of the number of mind, if there are too many". */
    private static void judgeMind() {
        for (int mind : new int[] {1, 2, 3, 22, 23}) {
            judged("mind " + mind + ";", "end;".repeat(mind), -1);
            judged("mind " + mind + ";", "end;".repeat(mind + 1), mind);
            judged("mind " + mind + ";", "end;".repeat(mind) + "put 11;", mind);
            judged("mind " + mind + ";", "end;".repeat(mind - 1) + "put 11;end;", mind - 1);
        }
        judged("mind 24;", "end;".repeat(24), -1);
        judged("mind 1;", "end;".repeat(24), 1);
    }

    /** Promise 9: "IndexOutOfBoundsException: no such WAY." */
    private static void judge() {
        Twins.still(-1, "promise 9: ALLOWED", x -> x.judge(0));
        Twins.still(0, "promise 9: not ALLOWED", x -> x.judge(1));
        Twins.still(-1, "promise 9: the last", x -> x.judge(2));
        for (int way : new int[] {-1, 3, 6, LEAST, MOST}) {
            Twins.refused(Check.INDEX, "promise 9: WAY " + way, x -> x.judge(way));
        }
    }
}

import java.util.Random;
import java.util.function.Supplier;

/** Runs of calls by chance, from fixed seeds, on the class and on Model: all answers must be alike. */
public final class ModelTest {
    private static final String[] CLAUSES = {"heaps ", "places ", "mind ", "words ", "pairs", "moves"};
    private static final String[] ACTS = {"put H", "take H", "move H H", "pair H H", "empty H A", "up P", "down P",
        "none P A", "three P A", "go A", "say N", "end"};
    private static final String[] SCRAPS = {" ", ";", "(", ")", "[", "]", "not ", " and ", " or ", "now ", "was ",
        "at ", "said", "1", "99999", "12", "=", "<", "+", "/", "put ", "end;", "x", "heaps ", "", "\u0000", "\u00e9"};

    // an object is used for so many calls, and one text or run that is looked at takes at most so many
    private static final int CALLS = 512;
    private static final int DEAREST = 30;

    private final Random random;
    private final NothingAboveThree x = new NothingAboveThree();
    private final Model model = new Model();
    private int calls;

    private ModelTest(long seed) {
        random = new Random(seed);
    }

    public static void main(String[] args) {
        long seeds = args.length == 0 ? 150 : Long.parseLong(args[0]);
        for (long seed = 1; seed <= seeds; seed++) {
            ModelTest test = new ModelTest(seed);
            if (seed % 5 != 0) {
                test.settle();
            }
            while (test.calls < CALLS - DEAREST) {
                test.call();
            }
            new ModelTest(seed).packed();
        }
        Check.end();
    }

    /** A valley in which most acts are allowed, with texts on most shelves. */
    private void settle() {
        String[] valleys = {"heaps 3;places 2;moves;pairs;", "heaps 2;places 2;pairs;words 2;", "places 3;mind 4;moves;"};
        String valley = valleys[below(valleys.length)];
        feed(valley);
        same("valley", () -> x.valley(valley.length()), () -> model.valley(valley.length()));
        for (int i = 0; i < 5; i++) {
            text(1);
            text(2);
        }
        for (int i = 0; i < 2; i++) {
            int which = i;
            int pebbles = below(6);
            int three = below(4);
            same("heap", () -> x.heap(which, pebbles), () -> model.heap(which, pebbles));
            same("place", () -> x.place(which, three), () -> model.place(which, three));
        }
    }

    private int below(int bound) {
        return random.nextInt(bound);
    }

    /** Mostly within, sometimes just beyond. */
    private int near(int least, int most) {
        int by = below(12);
        return by == 0 ? least - 1 : by == 1 ? most + 1 : least + below(most - least + 1);
    }

    private void same(String what, Supplier<?> ours, Supplier<?> models) {
        calls++;
        Check.due(Check.answer(models), what, ours);
    }

    private void feed(String text) {
        for (int from = 0; from < text.length(); from += 20) {
            int[] five = new int[5];
            for (int i = 0; i < 20; i++) {
                five[i / 4] = five[i / 4] << 8 | (from + i < text.length() ? text.charAt(from + i) : 0);
            }
            same("feed", () -> x.feed(five[0], five[1], five[2], five[3], five[4]), () -> model.feed(five));
        }
    }

    private String scratched(String text) {
        if (below(3) != 0 || text.isEmpty()) {
            return text;
        }
        int at = below(text.length());
        int to = Math.min(text.length(), at + below(3));
        return text.substring(0, at) + SCRAPS[below(SCRAPS.length)] + text.substring(to);
    }

    private String valleyText() {
        StringBuilder text = new StringBuilder();
        int[] most = {12, 24, 24, 3};
        int from = below(CLAUSES.length);
        int many = below(6) + (below(9) == 0 ? 1 : 0);
        for (int i = 0; i < many; i++) {
            int which = (from + i) % 6;
            text.append(CLAUSES[which]);
            if (which < 4) {
                text.append(which == 0 && below(3) != 0 ? 3 : below(6) == 0 ? below(most[which] + 2) : most[which]);
            }
            text.append(below(5) == 0 ? " ;" : ";");
        }
        return text.toString();
    }

    private String wayText() {
        StringBuilder text = new StringBuilder();
        int many = below(20) == 0 ? 23 + below(4) : 1 + below(7);
        for (int i = 0; i < many; i++) {
            // fewer that end a run
            String act = ACTS[below(3) == 0 ? below(12) : below(10)];
            for (int k = 0; k < act.length(); k++) {
                char c = act.charAt(k);
                int rare = below(40);
                if (c == 'H') {
                    text.append(rare == 0 ? below(14) : below(3));
                } else if (c == 'P') {
                    text.append(rare == 0 ? below(26) : below(2));
                } else if (c == 'A') {
                    text.append(rare == 0 ? below(27) : below(many + 1));
                } else if (c == 'N') {
                    text.append(rare == 0 ? below(6) : below(3));
                } else {
                    text.append(c);
                }
            }
            text.append(';');
        }
        return text.toString();
    }

    private String sum(int depth) {
        StringBuilder text = new StringBuilder();
        int many = 1 + (below(2) == 0 ? below(3) : 0);
        for (int i = 0; i < many; i++) {
            text.append(i == 0 ? "" : String.valueOf("+-*/".charAt(below(4))));
            int which = below(depth > 0 ? 7 : 6);
            if (which < 2) {
                text.append(below(30) == 0 ? below(12000) : below(4));
            } else if (which < 5) {
                text.append(new String[] {"was ", "now ", "at "}[which - 2]).append(below(30) == 0 ? below(26) : below(3));
            } else {
                text.append(which == 5 ? "said" : "(" + sum(depth - 1) + ")");
            }
        }
        return text.toString();
    }

    private String condition(int depth) {
        StringBuilder text = new StringBuilder();
        int many = 1 + (below(2) == 0 ? below(3) : 0);
        for (int i = 0; i < many; i++) {
            text.append(i == 0 ? "" : below(2) == 0 ? " and " : " or ");
            while (below(4) == 0) {
                text.append("not ");
            }
            if (depth > 0 && below(3) == 0) {
                text.append('[').append(condition(depth - 1)).append(']');
            } else {
                text.append(sum(depth)).append("<>=".charAt(below(3))).append(sum(depth));
            }
        }
        return text.toString();
    }

    private String simple() {
        String[] some = {"now 0+now 1<9", "now 0=0", "now 1=was 0+was 1", "said=9", "said<9", "at 0=at 1", "1=1",
            "now 0=was 0+1", "now 0=was 0", "now 0=was 0-1", "was 0=0 or said=1", "now 0=was 1"};
        return some[below(some.length)];
    }

    private String taskText() {
        StringBuilder text = new StringBuilder();
        int many = below(25) == 0 ? 11 + below(4) : 1 + below(2);
        for (int i = 0; i < many; i++) {
            text.append(many > 4 ? "1=1" : below(2) == 0 ? simple() : condition(below(9) == 0 ? 5 : 2)).append(';');
        }
        return text.toString();
    }

    /** Texts that fill the TAPE, or nearly so, mostly of tokens of one byte; cut where they may be. */
    private void packed() {
        for (int i = 0; i < 18; i++) {
            StringBuilder text = new StringBuilder();
            int length = 400 - below(3) * below(3);
            while (text.length() < length) {
                text.append(below(3) != 0 ? packedSum() : below(2) == 0 ? taskText() : "1=1;");
            }
            text.setLength(length);
            String tail = new String[] {"", "=1;", ";", "=", " ", "+", "1", "(", ")=1;"}[below(9)];
            String whole = text.substring(0, length - tail.length()) + tail;
            feed(whole);
            same("text " + whole, () -> x.task(length), () -> model.task(length));
            same("fault of " + whole, () -> x.fault(), () -> model.fault());
        }
        feed("end;");
        same("way", () -> x.way(4), () -> model.way(4));
        for (int i = 0; i < 6; i++) {
            int which = i;
            same("holds", () -> x.holds(0, which), () -> model.holds(0, which));
        }
    }

    private String packedSum() {
        StringBuilder text = new StringBuilder();
        int opened = 0;
        int left = 1 + below(200);
        for (int i = 0; i < left; i++) {
            while (opened < 6 && below(9) == 0) {
                text.append('(');
                opened++;
            }
            text.append((char) ('0' + below(10)));
            while (opened > 0 && below(9) == 0) {
                text.append(')');
                opened--;
            }
            text.append("+-*/".charAt(below(4)));
        }
        return text.append('1').append(")".repeat(opened)).append(below(2) == 0 ? "=" : "<1;").toString();
    }

    private void text(int which) {
        String text = scratched(which == 0 ? valleyText() : which == 1 ? wayText() : taskText());
        text = text.length() > 400 ? text.substring(0, 400) : text;
        feed(text);
        int n = below(20) == 0 ? near(0, 400) : text.length();
        same("text " + text, () -> which == 0 ? x.valley(n) : which == 1 ? x.way(n) : x.task(n),
                () -> which == 0 ? model.valley(n) : which == 1 ? model.way(n) : model.task(n));
        same("fault of " + text, () -> x.fault(), () -> model.fault());
    }

    private void call() {
        calls += 2;
        int a = below(8) == 0 ? near(0, 5) : below(Math.max(1, x.count(0)));
        int b = below(8) == 0 ? near(0, 5) : below(Math.max(1, x.count(1)));
        int k = below(3) == 0 ? near(0, 24) : below(6);
        int how = near(0, 1);
        int m = near(1, 3);
        int n = below(5) == 0 ? near(0, 9) : below(4);
        int what = near(0, 5);
        switch (below(26)) {
            case 0: text(below(5) == 0 ? 0 : 1); break;
            case 1: text(1); break;
            case 2: text(2); break;
            case 3: same("told", () -> x.told(what), () -> model.told(what)); break;
            case 4: same("act", () -> x.act(a, k, how), () -> model.act(a, k, how)); break;
            case 5: same("judge", () -> x.judge(a), () -> model.judge(a)); break;
            case 6: same("heap", () -> x.heap(m - 1, n), () -> model.heap(m - 1, n)); break;
            case 7: same("place", () -> x.place(b, n), () -> model.place(b, n)); break;
            case 8: ran(a, below(9) == 0 ? near(1, 4000) : 1 + below(40)); break;
            case 9: same("ends", () -> x.ends(what), () -> model.ends(what)); break;
            case 10: same("on", () -> x.on(), () -> model.on()); break;
            case 11: same("holds", () -> x.holds(a, b), () -> model.holds(a, b)); break;
            case 12: same("right", () -> x.right(a, b, m, n), () -> model.right(a, b, m, n, false)); break;
            case 13: same("least", () -> x.least(a, b, m, n), () -> model.right(a, b, m, n, true)); break;
            case 14:
            case 15: same("kept", () -> x.kept(a, b, k, m, n), () -> model.kept(a, b, k, m, n)); break;
            case 16: found(b, near(1, 2), near(0, 3)); break;
            case 17: same("can", () -> x.can(m, a, k), () -> model.can(m, a, k)); break;
            case 18: same("why", () -> x.why(m, n), () -> model.why(m, n)); break;
            case 19:
            case 20: same("cheat", () -> x.cheat(a, b, k, how), () -> model.cheat(a, b, k, how)); break;
            case 21: same("soon", () -> x.soon(a, k, how), () -> model.soon(a, k, how)); break;
            case 22: same("hidden", () -> x.hidden(a, b, how), () -> model.hidden(a, b, how)); break;
            case 23: same("image", () -> x.image(), () -> model.image()); break;
            case 24: same("restore", () -> x.restore(), () -> model.restore()); break;
            default:
                same("status", () -> x.status(what), () -> model.status(what));
                same("count", () -> x.count(what), () -> model.count(what));
        }
    }

    private void ran(int way, int acts) {
        same("run", () -> x.run(way, acts), () -> model.run(way, acts));
        for (int i = 0; i < 4; i++) {
            int what = i;
            same("ends", () -> x.ends(what), () -> model.ends(what));
            same("row", () -> x.row(what), () -> model.row(what));
            same("left", () -> x.left(what), () -> model.left(what));
        }
    }

    private void found(int task, int m, int n) {
        int acts = below(4) == 0 ? near(1, 3) : 2;
        int most = below(3) == 0 ? near(1, 3000) : 1500;
        for (int i = 0; i < 6; i++) {
            int what = i;
            same("find", () -> x.find(task, m, n, acts, most, what), () -> model.find(task, m, n, acts, most, what));
        }
        if (below(3) == 0) {
            same("keep", () -> x.keep(task, m, n, acts, most), () -> model.keep(task, m, n, acts, most));
        }
    }
}

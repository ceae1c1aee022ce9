import java.util.ArrayList;
import java.util.Arrays;
import java.util.List;
import java.util.NoSuchElementException;
import java.util.regex.Matcher;
import java.util.regex.Pattern;

/**
 * A second, plain reading of the document's texts and runs (promises 1 to 26, 40, 46 to 49), with
 * all that the library has: ModelTest holds the class against it.
 */
final class Model {
    private static final Pattern TOKEN = Pattern.compile("[a-z]+|[0-9]+|[^ ]", Pattern.DOTALL);
    private static final List<String> CLAUSES = List.of("heaps", "places", "mind", "words", "pairs", "moves");
    private static final List<String> ACTS = List.of("put", "take", "move", "pair", "empty", "up", "down", "none", "three", "go", "say", "end");
    private static final String[] NUMBERS = {"H", "H", "HH", "HH", "HA", "P", "P", "PA", "PA", "A", "N", ""};

    interface Value {
        int of(Run run);
    }

    static final class Run {
        int[] was;
        int[] heaps;
        int[] places;
        int ends;
        int acts;
        int at;
        int said = 9;
    }

    static final class Fault extends RuntimeException {
        static final long serialVersionUID = 1;
        final int kind;
        final int place;

        Fault(int kind, int place) {
            this.kind = kind;
            this.place = place;
        }
    }

    static final class World implements Cloneable {
        int[] told = {2, 0, 24, 3, 0, 0};
        int[] heaps = new int[12];
        int[] places = new int[24];
        Run latest;

        World copy() {
            World other = new World();
            other.told = told.clone();
            other.heaps = heaps.clone();
            other.places = places.clone();
            other.latest = latest;
            return other;
        }
    }

    private final StringBuilder tape = new StringBuilder();
    private int fault = -1;
    private final List<int[][]> ways = new ArrayList<>();
    private final List<List<Value>> tasks = new ArrayList<>();
    private World world = new World();
    private final List<World> images = new ArrayList<>();
    private final int[] refused = new int[4];

    // ---- tokens of the text that is read

    private List<String> tokens;
    private List<Integer> starts;
    private int next;
    private int open;

    private String take(int n) {
        refuse(n < 0 || n > tape.length());
        String text = tape.substring(0, n);
        tape.setLength(0);
        fault = -1;
        tokens = new ArrayList<>();
        starts = new ArrayList<>();
        Matcher m = TOKEN.matcher(text);
        while (m.find()) {
            tokens.add(m.group());
            starts.add(m.start());
        }
        tokens.add("");
        starts.add(n);
        next = 0;
        open = 0;
        return text;
    }

    private String peek() {
        return tokens.get(next);
    }

    private Fault faultOf(int kind) {
        return new Fault(kind, starts.get(next));
    }

    private void expect(String token) {
        if (!peek().equals(token)) {
            throw faultOf(1);
        }
        next++;
    }

    private boolean isNumber() {
        return peek().matches("[0-9]+");
    }

    private int number(int least, int most) {
        if (!isNumber()) {
            throw faultOf(1);
        }
        java.math.BigInteger value = new java.math.BigInteger(peek());
        if (value.bitLength() > 20 || value.intValue() < least || value.intValue() > most) {
            throw faultOf(2);
        }
        next++;
        return value.intValue();
    }

    // ---- texts

    int feed(int[] five) {
        if (tape.length() + 20 > 400) {
            return -1;
        }
        for (int v : five) {
            for (int k = 3; k >= 0; k--) {
                tape.append((char) (v >> 8 * k & 255));
            }
        }
        return tape.length();
    }

    int valley(int n) {
        take(n);
        try {
            int[] told = {2, 0, 24, 3, 0, 0};
            int[][] bounds = {{1, 12}, {0, 24}, {1, 24}, {0, 3}};
            List<String> seen = new ArrayList<>();
            while (!peek().isEmpty()) {
                int which = CLAUSES.indexOf(peek());
                if (which < 0) {
                    throw faultOf(1);
                }
                if (seen.contains(peek())) {
                    throw faultOf(4);
                }
                seen.add(peek());
                next++;
                told[which] = which < 4 ? number(bounds[which][0], bounds[which][1]) : 1;
                expect(";");
            }
            world = world.copy();
            world.told = told;
            world.heaps = new int[12];
            world.places = new int[24];
            world.latest = null;
            return seen.size();
        } catch (Fault f) {
            fault = f.place;
            return f.kind - 10;
        }
    }

    int way(int n) {
        take(n);
        if (ways.size() == 6) {
            return -1;
        }
        try {
            List<int[]> acts = new ArrayList<>();
            while (acts.isEmpty() || !peek().isEmpty()) {
                int kind = ACTS.indexOf(peek());
                if (kind < 0) {
                    throw faultOf(1);
                }
                if (acts.size() == 24) {
                    throw faultOf(3);
                }
                next++;
                int[] act = {kind, -1, -1};
                for (int i = 0; i < NUMBERS[kind].length(); i++) {
                    int here = next;
                    act[i + 1] = number(0, new int[] {11, 23, 24, 3}["HPAN".indexOf(NUMBERS[kind].charAt(i))]);
                    if (NUMBERS[kind].equals("HH") && act[1] == act[2]) {
                        next = here;
                        throw faultOf(2);
                    }
                }
                expect(";");
                acts.add(act);
            }
            return shelve(acts.toArray(new int[0][]));
        } catch (Fault f) {
            fault = f.place;
            return f.kind - 10;
        }
    }

    private int shelve(int[][] acts) {
        if (ways.size() == 6) {
            return -1;
        }
        ways.add(acts);
        return ways.size() - 1;
    }

    int task(int n) {
        take(n);
        if (tasks.size() == 6) {
            return -1;
        }
        try {
            List<Value> all = new ArrayList<>();
            while (all.isEmpty() || !peek().isEmpty()) {
                if (all.size() == 12) {
                    if (isNumber()) {
                        number(0, 9999);
                        next--;
                    } else if (!List.of("not", "was", "now", "at", "said", "(", "[").contains(peek())) {
                        throw faultOf(1);
                    }
                    throw faultOf(3);
                }
                all.add(either());
                expect(";");
            }
            tasks.add(all);
            return tasks.size() - 1;
        } catch (Fault f) {
            fault = f.place;
            return f.kind - 10;
        }
    }

    private void opens() {
        if (open == 6) {
            throw faultOf(3);
        }
        open++;
        next++;
    }

    private Value either() {
        Value left = both();
        while (peek().equals("or")) {
            next++;
            Value a = left;
            Value b = both();
            left = r -> a.of(r) + b.of(r) > 0 ? 1 : 0;
        }
        return left;
    }

    private Value both() {
        Value left = basic();
        while (peek().equals("and")) {
            next++;
            Value a = left;
            Value b = basic();
            left = r -> a.of(r) * b.of(r);
        }
        return left;
    }

    private Value basic() {
        if (peek().equals("not")) {
            opens();
            Value inner = basic();
            open--;
            return r -> inner.of(r) == 0 ? 1 : 0;
        }
        if (peek().equals("[")) {
            opens();
            Value inner = either();
            expect("]");
            open--;
            return inner;
        }
        Value a = sum();
        String sign = peek();
        if (!List.of("<", ">", "=").contains(sign)) {
            throw faultOf(1);
        }
        next++;
        Value b = sum();
        return r -> {
            int c = Integer.compare(a.of(r), b.of(r));
            return (sign.equals("<") ? c < 0 : sign.equals(">") ? c > 0 : c == 0) ? 1 : 0;
        };
    }

    private Value sum() {
        Value left = product();
        while (peek().equals("+") || peek().equals("-")) {
            int sign = peek().equals("+") ? 1 : -1;
            next++;
            Value a = left;
            Value b = product();
            left = r -> a.of(r) + sign * b.of(r);
        }
        return left;
    }

    private Value product() {
        Value left = unit();
        while (peek().equals("*") || peek().equals("/")) {
            boolean times = peek().equals("*");
            next++;
            Value a = left;
            Value b = unit();
            left = r -> times ? a.of(r) * b.of(r) : b.of(r) == 0 ? 0 : (int) ((long) a.of(r) / b.of(r));
        }
        return left;
    }

    private Value unit() {
        if (isNumber()) {
            int value = number(0, 9999);
            return r -> value;
        }
        if (peek().equals("(")) {
            opens();
            Value inner = sum();
            expect(")");
            open--;
            return inner;
        }
        String word = peek();
        if (!List.of("was", "now", "at", "said").contains(word)) {
            throw faultOf(1);
        }
        next++;
        if (word.equals("said")) {
            return r -> r.said;
        }
        int which = number(0, word.equals("at") ? 23 : 11);
        return r -> word.equals("was") ? r.was[which] : word.equals("now") ? r.heaps[which] : r.places[which];
    }

    // ---- refusals

    private void refuse(boolean wrong) {
        if (wrong) {
            refused[2]++;
            throw new IllegalArgumentException();
        }
    }

    private int[][] theWay(int way) {
        if (way < 0 || way >= ways.size()) {
            refused[0]++;
            throw new IndexOutOfBoundsException();
        }
        return ways.get(way);
    }

    private List<Value> theTask(int task) {
        refuseElement(task < 0 || task >= tasks.size());
        return tasks.get(task);
    }

    private void refuseElement(boolean wrong) {
        if (wrong) {
            refused[1]++;
            throw new NoSuchElementException();
        }
    }

    private void refuseBarred(int[][] way) {
        if (barred(way) != -1) {
            refused[3]++;
            throw new IllegalStateException();
        }
    }

    // ---- the rest

    int fault() {
        return fault;
    }

    int told(int what) {
        refuse(what < 0 || what > 7);
        return what == 6 ? ways.size() : what == 7 ? tasks.size() : world.told[what];
    }

    int act(int way, int k, int what) {
        int[][] asked = theWay(way);
        refuseElement(k < 0 || k >= asked.length);
        refuse(what < 0 || what > 2);
        return asked[k][what];
    }

    int judge(int way) {
        return barred(theWay(way));
    }

    private int barred(int[][] way) {
        for (int k = 0; k < way.length; k++) {
            boolean fine = k < world.told[2];
            fine &= way[k][0] != 2 || world.told[5] == 1;
            fine &= way[k][0] != 3 || world.told[4] == 1;
            String kinds = NUMBERS[way[k][0]];
            for (int i = 0; i < kinds.length(); i++) {
                int[] most = {world.told[0] - 1, world.told[1] - 1, way.length, world.told[3]};
                fine &= way[k][i + 1] <= most["HPAN".indexOf(kinds.charAt(i))];
            }
            if (!fine) {
                return k;
            }
        }
        return -1;
    }

    int heap(int h, int v) {
        refuse(h < 0 || h >= world.told[0] || v < 0 || v > 1000000000);
        int before = world.heaps[h];
        world.heaps[h] = v;
        return before;
    }

    int place(int p, int v) {
        refuse(p < 0 || p >= world.told[1] || v < 0 || v > 3);
        int before = world.places[p];
        world.places[p] = v;
        return before;
    }

    /** What is to be looked at each time a run comes to an act. */
    interface Watch {
        void comes(Run run);
    }

    private static boolean changed(int[] row, int i, int by, int most) {
        if (row[i] + by < 0 || row[i] + by > most) {
            return false;
        }
        row[i] += by;
        return true;
    }

    private static boolean done(Run r, int[] act) {
        int most = 1000000000;
        switch (act[0]) {
            case 0: return changed(r.heaps, act[1], 1, most);
            case 1: return changed(r.heaps, act[1], -1, most);
            case 2: return r.heaps[act[1]] > 0 && changed(r.heaps, act[2], 1, most) && changed(r.heaps, act[1], -1, most);
            case 3: return r.heaps[act[1]] > 0 && changed(r.heaps, act[2], -1, most) && changed(r.heaps, act[1], -1, most);
            case 5: return changed(r.places, act[1], 1, 3);
            case 6: return changed(r.places, act[1], -1, 3);
            default: return true;
        }
    }

    /** The wrong act is the k-th (-1: none), left out (0) or done twice (1). */
    private static Run runs(int[][] way, int[] heaps, int[] places, int limit, int k, int how, Watch watch) {
        Run r = new Run();
        r.was = heaps.clone();
        r.heaps = heaps.clone();
        r.places = places.clone();
        r.ends = 3;
        watch.comes(r);
        while (r.acts < limit) {
            int[] act = way[r.at];
            boolean wrong = r.acts == k;
            if (wrong && how == 0) {
                r.at++;
            } else {
                if (!done(r, act) || wrong && how == 1 && !done(r, act)) {
                    r.ends = 2;
                    return r;
                }
                if (act[0] >= 10) {
                    r.acts++;
                    r.said = act[0] == 10 ? act[1] : 9;
                    r.ends = act[0] == 10 ? 1 : 0;
                    return r;
                }
                boolean jumps = act[0] == 9 || act[0] == 4 && r.heaps[act[1]] == 0
                        || act[0] == 7 && r.places[act[1]] == 0 || act[0] == 8 && r.places[act[1]] == 3;
                r.at = jumps ? act[act[0] == 9 ? 1 : 2] : r.at + 1;
            }
            r.acts++;
            watch.comes(r);
            if (r.at == way.length) {
                r.ends = 0;
                return r;
            }
        }
        return r;
    }

    private static Run runs(int[][] way, int[] heaps, int[] places, int limit) {
        return runs(way, heaps, places, limit, -1, 0, r -> { });
    }

    int run(int way, int acts) {
        int[][] asked = theWay(way);
        refuse(acts < 1 || acts > 4000);
        refuseBarred(asked);
        world.latest = runs(asked, world.heaps, world.places, acts);
        return world.latest.ends;
    }

    int ends(int what) {
        refuse(what < 0 || what > 3);
        Run r = world.latest;
        return r == null ? -1 : new int[] {r.ends, r.acts, r.at, r.said}[what];
    }

    int row(int h) {
        refuse(h < 0 || h >= world.told[0]);
        return world.latest == null ? -1 : world.latest.heaps[h];
    }

    int left(int p) {
        refuse(p < 0 || p >= world.told[1]);
        return world.latest == null ? -1 : world.latest.places[p];
    }

    int on() {
        if (world.latest == null) {
            return 0;
        }
        world.heaps = world.latest.heaps.clone();
        world.places = world.latest.places.clone();
        return 1;
    }

    private static boolean allTrue(List<Value> task, Run r) {
        return task.stream().allMatch(c -> c.of(r) != 0);
    }

    private static boolean met(List<Value> task, Run r) {
        return r.ends <= 1 && allTrue(task, r);
    }

    boolean holds(int way, int task) {
        int[][] asked = theWay(way);
        List<Value> due = theTask(task);
        refuseBarred(asked);
        return met(due, runs(asked, world.heaps, world.places, 2000));
    }

    private static List<int[]> flocks(int m, int n) {
        List<int[]> all = new ArrayList<>();
        for (int number = 0; number < Math.pow(10, m); number++) {
            int[] flock = new int[12];
            String digits = String.valueOf(number + (int) Math.pow(10, m)).substring(1);
            boolean within = true;
            for (int h = 0; h < m; h++) {
                flock[h] = digits.charAt(h) - '0';
                within &= flock[h] <= n;
            }
            if (within) {
                all.add(flock);
            }
        }
        return all;
    }

    private static int numberOf(int[] flock, int m) {
        return Integer.parseInt(Arrays.stream(flock, 0, m).mapToObj(String::valueOf).reduce("", String::concat));
    }

    private void refuseRange(int m, int n, int mostHeaps, int most) {
        refuse(m < 1 || m > mostHeaps || m > world.told[0] || n < 0 || n > most);
    }

    int right(int way, int task, int m, int n, boolean least) {
        int[][] asked = theWay(way);
        List<Value> due = theTask(task);
        refuseRange(m, n, 3, 9);
        refuseBarred(asked);
        int count = 0;
        for (int[] flock : flocks(m, n)) {
            if (met(due, runs(asked, flock, new int[24], 2000))) {
                count++;
            } else if (least) {
                return numberOf(flock, m);
            }
        }
        return least ? -1 : count;
    }

    int kept(int way, int task, int k, int m, int n) {
        int[][] asked = theWay(way);
        List<Value> due = theTask(task);
        refuseElement(k < 0 || k > asked.length);
        refuseRange(m, n, 3, 9);
        refuseBarred(asked);
        for (int[] flock : flocks(m, n)) {
            boolean[] broken = {false};
            runs(asked, flock, new int[24], 2000, -1, 0, r -> broken[0] |= r.at == k && !allTrue(due, r));
            if (broken[0]) {
                return numberOf(flock, m);
            }
        }
        return -1;
    }

    private List<int[]> letters(int heaps, boolean both, int length) {
        List<int[]> all = new ArrayList<>();
        for (int h = 0; h < heaps; h++) {
            all.add(new int[] {0, h, -1});
            all.add(new int[] {1, h, -1});
        }
        for (int i = 0; i < heaps * heaps; i++) {
            if (both && world.told[5] == 1 && i / heaps != i % heaps) {
                all.add(new int[] {2, i / heaps, i % heaps});
            }
        }
        for (int i = 0; i < heaps * heaps; i++) {
            if (both && world.told[4] == 1 && i / heaps < i % heaps) {
                all.add(new int[] {3, i / heaps, i % heaps});
            }
        }
        for (int i = 0; i < heaps * (length + 1); i++) {
            all.add(new int[] {4, i / (length + 1), i % (length + 1)});
        }
        for (int a = 0; a <= length; a++) {
            all.add(new int[] {9, a, -1});
        }
        for (int w = 0; w <= world.told[3]; w++) {
            all.add(new int[] {10, w, -1});
        }
        all.add(new int[] {11, -1, -1});
        return all;
    }

    private static List<int[]> rows(int letters, int length) {
        List<int[]> all = new ArrayList<>();
        for (int i = 0; i < Math.pow(letters, length); i++) {
            int[] row = new int[length];
            int rest = i;
            for (int k = length - 1; k >= 0; k--) {
                row[k] = rest % letters;
                rest /= letters;
            }
            all.add(row);
        }
        return all;
    }

    private static int[][] spelled(List<int[]> letters, int[] row) {
        int[][] way = new int[row.length][];
        for (int k = 0; k < row.length; k++) {
            way[k] = letters.get(row[k]);
        }
        return way;
    }

    private int[][] foundWay;

    int find(int task, int m, int n, int acts, int most, int what) {
        List<Value> due = theTask(task);
        refuseRange(m, n, 2, 3);
        refuse(acts < 1 || acts > 3 || acts > world.told[2] || most < 1 || most > 20000 || what < 0 || what > 5);
        int[] answers = {-1, -1, 0, -1, -1, -1};
        foundWay = null;
        int tried = 0;
        List<int[]> flocks = flocks(m, n);
        for (int length = 1; length <= acts && foundWay == null; length++) {
            List<int[]> letters = letters(Math.min(3, world.told[0]), true, length);
            for (int[] row : rows(letters.size(), length)) {
                if (tried == most) {
                    break;
                }
                tried++;
                int[][] way = spelled(letters, row);
                if (flocks.stream().allMatch(f -> met(due, runs(way, f, new int[24], 60)))) {
                    answers[2]++;
                    if (foundWay == null) {
                        foundWay = way;
                        answers[0] = length;
                        answers[1] = tried;
                        System.arraycopy(row, 0, answers, 3, length);
                    }
                }
            }
        }
        if (foundWay == null) {
            return what == 1 ? tried : -1;
        }
        return answers[what];
    }

    int keep(int task, int m, int n, int acts, int most) {
        find(task, m, n, acts, most, 0);
        if (ways.size() == 6) {
            return -1;
        }
        return foundWay == null ? -2 : shelve(foundWay);
    }

    private boolean apart(int acts, int a, int b) {
        for (int length = 1; length <= acts; length++) {
            List<int[]> letters = letters(1, false, length);
            for (int[] row : rows(letters.size(), length)) {
                int[][] way = spelled(letters, row);
                int[] one = new int[12];
                int[] other = new int[12];
                one[0] = a;
                other[0] = b;
                Run first = runs(way, one, new int[24], 60);
                Run second = runs(way, other, new int[24], 60);
                if (first.ends != second.ends || first.said != second.said) {
                    return true;
                }
            }
        }
        return false;
    }

    boolean can(int acts, int a, int b) {
        refuse(acts < 1 || acts > 3 || acts > world.told[2] || a < 0 || a > 9 || b < 0 || b > 9);
        return apart(acts, a, b);
    }

    int why(int acts, int n) {
        refuse(acts < 1 || acts > 3 || acts > world.told[2] || n < 1 || n > 6);
        for (int b = 0; b <= n; b++) {
            for (int a = 0; a < b; a++) {
                if (!apart(acts, a, b)) {
                    return 10 * a + b;
                }
            }
        }
        return -1;
    }

    private Run wrong(int[][] way, int k, int how) {
        return runs(way, world.heaps, world.places, 2000, k, how, r -> { });
    }

    boolean cheat(int way, int task, int k, int how) {
        int[][] asked = theWay(way);
        List<Value> due = theTask(task);
        refuse(how < 0 || how > 1);
        refuseBarred(asked);
        refuse(k < 0 || k >= runs(asked, world.heaps, world.places, 2000).acts);
        return !met(due, wrong(asked, k, how));
    }

    int soon(int way, int k, int how) {
        int[][] asked = theWay(way);
        refuse(how < 0 || how > 1);
        refuseBarred(asked);
        refuse(k < 0 || k >= runs(asked, world.heaps, world.places, 2000).acts);
        Run r = wrong(asked, k, how);
        if (r.ends != 2) {
            return -1;
        }
        return r.acts == k ? 0 : r.acts - k - 1;
    }

    int hidden(int way, int task, int how) {
        int[][] asked = theWay(way);
        List<Value> due = theTask(task);
        refuse(how < 0 || how > 1);
        refuseBarred(asked);
        int acts = runs(asked, world.heaps, world.places, 2000).acts;
        for (int k = 0; k < acts; k++) {
            if (met(due, wrong(asked, k, how))) {
                return k;
            }
        }
        return -1;
    }

    int image() {
        if (images.size() == 3) {
            return -1;
        }
        images.add(world.copy());
        return images.size();
    }

    int restore() {
        if (images.isEmpty()) {
            return -1;
        }
        world = images.remove(images.size() - 1);
        return images.size();
    }

    int status(int what) {
        return what < 0 || what > 3 ? -1 : refused[what];
    }

    int count(int what) {
        return what < 0 || what > 3 ? -1 : new int[] {ways.size(), tasks.size(), images.size(), tape.length()}[what];
    }
}

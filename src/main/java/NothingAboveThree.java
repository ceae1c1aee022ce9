import java.util.Arrays;
import java.util.NoSuchElementException;

/** Nothing above three: a valley, its flock, ways and tasks, as ../shared/DOC.md promises. */
public final class NothingAboveThree {

    public static final int NONE = -1;

    private static final int TAPE_ROOM = 400;
    private static final int FED = 20;
    private static final int TEXTS_ROOM = 6;
    private static final int IMAGES_ROOM = 3;
    private static final int HEAPS = 12;
    private static final int PLACES = 24;
    private static final int MOST_ACTS = 24;
    private static final int BILLION = 1000000000;

    private static final int RUN_LIMIT = 2000;
    private static final int TRIAL_LIMIT = 60;
    private static final int MOST_TRIED = 20000;

    private static final int TOLD_HEAPS = 0;
    private static final int TOLD_PLACES = 1;
    private static final int TOLD_MIND = 2;
    private static final int TOLD_WORDS = 3;
    private static final int TOLD_PAIRS = 4;
    private static final int TOLD_MOVES = 5;
    private static final int TOLD = 6;

    private static final int CANNOT_STAND = 1;
    private static final int NO_SUCH_NUMBER = 2;
    private static final int TOO_MANY = 3;
    private static final int SECOND_TIME = 4;

    private static final int PUT = 0;
    private static final int TAKE = 1;
    private static final int MOVE = 2;
    private static final int PAIR = 3;
    private static final int EMPTY = 4;
    private static final int UP = 5;
    private static final int DOWN = 6;
    private static final int NOUGHT = 7;
    private static final int THREE = 8;
    private static final int GO = 9;
    private static final int SAY = 10;
    private static final int END = 11;

    private static final int ENDED = 0;
    private static final int ENDED_BY_WORD = 1;
    private static final int FAILED = 2;
    private static final int GOING = 3;
    private static final int NOTHING_SAID = 9;

    private static final int FIELDS = 6;
    private static final int BROTHERS = 4;
    private static final int MOST_WORTH = 99;
    private static final int SIDE = 6;
    private static final int GOODS = 6;
    private static final int GREATEST_DIVISOR = 9;

    private final Tape tape = new Tape();
    private final ValleyReader valleyReader = new ValleyReader();
    private final WayReader wayReader = new WayReader();
    private final TaskReader taskReader = new TaskReader();
    private final Way[] ways = new Way[TEXTS_ROOM];
    private final Task[] tasks = new Task[TEXTS_ROOM];
    private int wayCount;
    private int taskCount;
    private final State state = new State();
    private final State[] images = new State[IMAGES_ROOM];
    private int imageCount;
    private final int[] refused = new int[4];
    private final Runner runner = new Runner();
    private final Trials trials = new Trials();
    private final Sharer sharer = new Sharer();
    private final Reckoner reckoner = new Reckoner();

    public NothingAboveThree() {
    }

    // ---- texts

    public int feed(int a, int b, int c, int d, int e) {
        if (tape.length + FED > TAPE_ROOM) {
            return NONE;
        }
        tape.add(a);
        tape.add(b);
        tape.add(c);
        tape.add(d);
        tape.add(e);
        return tape.length;
    }

    public int valley(int n) throws IllegalArgumentException {
        refuseIf(isNot(n, 0, tape.length));
        tape.begin(n);
        if (!valleyReader.reads(tape)) {
            return tape.faultAnswer();
        }
        state.settle(valleyReader.told);
        return valleyReader.clauses;
    }

    public int way(int n) throws IllegalArgumentException {
        refuseIf(isNot(n, 0, tape.length));
        tape.begin(n);
        // with 6 there the text is not read: it is the latest one, and without a FAULT
        if (wayCount >= TEXTS_ROOM) {
            return NONE;
        }
        return wayReader.reads(tape) ? adopt(wayReader.read) : tape.faultAnswer();
    }

    public int task(int n) throws IllegalArgumentException {
        refuseIf(isNot(n, 0, tape.length));
        tape.begin(n);
        // as of a WAY
        if (taskCount >= TEXTS_ROOM) {
            return NONE;
        }
        if (!taskReader.reads(tape)) {
            return tape.faultAnswer();
        }
        tasks[taskCount] = taskReader.made();
        taskCount++;
        return taskCount - 1;
    }

    public int fault() {
        return tape.faultPlace;
    }

    public int told(int what) throws IllegalArgumentException {
        refuseIf(isNot(what, 0, 7));
        if (what == 6) {
            return wayCount;
        }
        if (what == 7) {
            return taskCount;
        }
        return state.valley[what];
    }

    public int act(int way, int k, int what)
            throws IndexOutOfBoundsException, NoSuchElementException, IllegalArgumentException {
        Way asked = theWay(way);
        refuseElementIf(isNot(k, 0, asked.many - 1));
        refuseIf(isNot(what, 0, 2));
        if (what == 0) {
            return asked.kinds[k];
        }
        return what == 1 ? asked.firsts[k] : asked.seconds[k];
    }

    public int judge(int way) throws IndexOutOfBoundsException {
        return theWay(way).firstBarred(state.valley);
    }

    // ---- the flock and its runs

    public int heap(int h, int v) throws IllegalArgumentException {
        refuseIf(isNoHeap(h) || isNot(v, 0, BILLION));
        int before = state.heaps[h];
        state.heaps[h] = v;
        return before;
    }

    public int place(int p, int v) throws IllegalArgumentException {
        refuseIf(isNoPlace(p) || isNot(v, 0, 3));
        int before = state.places[p];
        state.places[p] = v;
        return before;
    }

    public int run(int way, int acts)
            throws IndexOutOfBoundsException, IllegalArgumentException, IllegalStateException {
        Way asked = theWay(way);
        refuseIf(isNot(acts, 1, 4000));
        refuseBarred(asked);
        runner.startFrom(state);
        runner.follow(asked, acts);
        state.remember(runner);
        return runner.ends;
    }

    public int ends(int what) throws IllegalArgumentException {
        refuseIf(isNot(what, 0, 3));
        return state.ran ? state.outcome[what] : NONE;
    }

    public int row(int h) throws IllegalArgumentException {
        refuseIf(isNoHeap(h));
        return state.ran ? state.leftHeaps[h] : NONE;
    }

    public int left(int p) throws IllegalArgumentException {
        refuseIf(isNoPlace(p));
        return state.ran ? state.leftPlaces[p] : NONE;
    }

    public int on() {
        if (!state.ran) {
            return 0;
        }
        state.takeOver();
        return 1;
    }

    // ---- what is true behind

    public boolean holds(int way, int task)
            throws IndexOutOfBoundsException, NoSuchElementException, IllegalStateException {
        Way asked = theWay(way);
        Task due = theTask(task);
        refuseBarred(asked);
        runner.startFrom(state);
        runner.follow(asked, RUN_LIMIT);
        return due.isMetBy(runner);
    }

    public int right(int way, int task, int m, int n)
            throws IndexOutOfBoundsException, NoSuchElementException, IllegalArgumentException,
            IllegalStateException {
        Way asked = theWay(way);
        Task due = theTask(task);
        refuseIf(isNoRange(m, n, 3, 9));
        refuseBarred(asked);
        int flocks = flocksWithin(m, n);
        int met = 0;
        for (int i = 0; i < flocks; i++) {
            if (isMetFrom(asked, due, i, m, n)) {
                met++;
            }
        }
        return met;
    }

    public int least(int way, int task, int m, int n)
            throws IndexOutOfBoundsException, NoSuchElementException, IllegalArgumentException,
            IllegalStateException {
        Way asked = theWay(way);
        Task due = theTask(task);
        refuseIf(isNoRange(m, n, 3, 9));
        refuseBarred(asked);
        int flocks = flocksWithin(m, n);
        for (int i = 0; i < flocks; i++) {
            if (!isMetFrom(asked, due, i, m, n)) {
                return runner.flockNumber(m);
            }
        }
        return NONE;
    }

    public int kept(int way, int task, int k, int m, int n)
            throws IndexOutOfBoundsException, NoSuchElementException, IllegalArgumentException,
            IllegalStateException {
        Way asked = theWay(way);
        Task due = theTask(task);
        refuseElementIf(isNot(k, 0, asked.many));
        refuseIf(isNoRange(m, n, 3, 9));
        refuseBarred(asked);
        int flocks = flocksWithin(m, n);
        for (int i = 0; i < flocks; i++) {
            runner.startSmall(i, m, n);
            if (!runner.keepsAt(asked, due, k)) {
                return runner.flockNumber(m);
            }
        }
        return NONE;
    }

    // ---- ways found by going through all

    public int find(int task, int m, int n, int acts, int most, int what)
            throws NoSuchElementException, IllegalArgumentException {
        Task due = theTask(task);
        refuseIf(isNoQuest(m, n, acts, most) || isNot(what, 0, 5));
        boolean found = trials.seek(due, state.valley, m, n, acts, most);
        if (what == 1) {
            return trials.tried;
        }
        if (!found) {
            return NONE;
        }
        if (what == 0) {
            return trials.way.many;
        }
        return what == 2 ? trials.countRivals(due, m, n, most) : trials.pickAt(what - 3);
    }

    public int keep(int task, int m, int n, int acts, int most)
            throws NoSuchElementException, IllegalArgumentException {
        Task due = theTask(task);
        refuseIf(isNoQuest(m, n, acts, most));
        if (wayCount >= TEXTS_ROOM) {
            return NONE;
        }
        if (!trials.seek(due, state.valley, m, n, acts, most)) {
            return -2;
        }
        return adopt(trials.way);
    }

    public boolean can(int acts, int a, int b) throws IllegalArgumentException {
        refuseIf(isNoLength(acts) || isNot(a, 0, 9) || isNot(b, 0, 9));
        return trials.tellApart(acts, a, b, state.valley);
    }

    public int why(int acts, int n) throws IllegalArgumentException {
        refuseIf(isNoLength(acts) || isNot(n, 1, 6));
        for (int b = 1; b <= n; b++) {
            for (int a = 0; a < b; a++) {
                if (!trials.tellApart(acts, a, b, state.valley)) {
                    return 10 * a + b;
                }
            }
        }
        return NONE;
    }

    // ---- wrong acts

    public boolean cheat(int way, int task, int k, int how)
            throws IndexOutOfBoundsException, NoSuchElementException, IllegalArgumentException,
            IllegalStateException {
        Way asked = theWay(way);
        Task due = theTask(task);
        refuseIf(isNot(how, 0, 1));
        refuseBarred(asked);
        refuseIf(isNot(k, 0, actsWithoutWrong(asked) - 1));
        return isFound(asked, due, k, how);
    }

    public int soon(int way, int k, int how)
            throws IndexOutOfBoundsException, IllegalArgumentException, IllegalStateException {
        Way asked = theWay(way);
        refuseIf(isNot(how, 0, 1));
        refuseBarred(asked);
        refuseIf(isNot(k, 0, actsWithoutWrong(asked) - 1));
        runner.startFrom(state);
        runner.followWrong(asked, k, how);
        if (runner.ends != FAILED) {
            return NONE;
        }
        // a second time that cannot be done leaves the WRONG ACT itself uncounted
        return Math.max(0, runner.acts - k - 1);
    }

    public int hidden(int way, int task, int how)
            throws IndexOutOfBoundsException, NoSuchElementException, IllegalArgumentException,
            IllegalStateException {
        Way asked = theWay(way);
        Task due = theTask(task);
        refuseIf(isNot(how, 0, 1));
        refuseBarred(asked);
        int acts = actsWithoutWrong(asked);
        for (int k = 0; k < acts; k++) {
            if (!isFound(asked, due, k, how)) {
                return k;
            }
        }
        return NONE;
    }

    // ---- numbers and words

    public int places(int n) throws IllegalArgumentException {
        refuseIf(n < 0);
        return Reckoner.placesFor(n);
    }

    public int pebbles(int n) throws IllegalArgumentException {
        refuseIf(n < 0);
        return Reckoner.pebblesOf(n);
    }

    public int fewest(int n) throws IllegalArgumentException {
        refuseIf(n < 0);
        return Reckoner.mostPebbles(n);
    }

    public int tell(int n, int w) throws IllegalArgumentException {
        refuseIf(n < 0 || isNot(w, 1, 9));
        return Reckoner.telling(n, w);
    }

    public int word(int n, int w) throws IllegalArgumentException {
        refuseIf(n < 0 || isNot(w, 1, 9));
        return Reckoner.telling(n, w) - Reckoner.telling(n, w + 1);
    }

    public int stranger(int n, int w, int k, int c) throws IllegalArgumentException {
        refuseIf(n < 0 || isNot(w, 1, 9) || isNot(k, 0, 99) || isNot(c, 0, 99));
        return k * Reckoner.telling(n, w) - k * c;
    }

    public int mind(long words, int many, int what) throws IllegalArgumentException {
        refuseIf(isNot(many, 1, 30) || isNot(what, 0, 2));
        return Reckoner.fewStates(words, many, what);
    }

    public int whole(int n, int word) throws IllegalArgumentException {
        refuseIf(isNot(n, 0, BILLION) || isNot(word, 1, 255));
        return reckoner.wholeNumbers(n, word);
    }

    public int knows(int by, int rest) throws IllegalArgumentException {
        refuseIf(isNot(by, 2, GREATEST_DIVISOR) || isNot(rest, NONE, by - 1));
        int before = state.rests[by];
        state.rests[by] = rest;
        return before;
    }

    public int woman(int n, int what) throws IllegalArgumentException {
        refuseIf(isNot(n, 0, BILLION) || isNot(what, 0, 2));
        return Reckoner.oldWoman(state.rests, n, what);
    }

    // ---- fields, tables, goods

    public int field(int f, int brother, int v) throws IllegalArgumentException {
        refuseIf(isNot(f, 0, FIELDS - 1) || isNot(brother, 0, BROTHERS - 1) || isNot(v, 0, MOST_WORTH));
        int cell = f * BROTHERS + brother;
        int before = state.worth[cell];
        state.worth[cell] = v;
        return before;
    }

    public int share(int fields, int brothers, int what) throws IllegalArgumentException {
        refuseIf(isNoParty(fields, brothers) || isNot(what, 0, 2));
        sharer.seekFair(state.worth, fields, brothers);
        if (what == 2) {
            return sharer.fairOnes;
        }
        return what == 0 ? sharer.best : sharer.bestWorth;
    }

    public int even(int fields, int brothers) throws IllegalArgumentException {
        refuseIf(isNoParty(fields, brothers));
        return sharer.leastSpread(state.worth, fields, brothers);
    }

    public int envy(int fields, int brothers, int sharing) throws IllegalArgumentException {
        refuseIf(isNoParty(fields, brothers));
        refuseIf(!sharer.divide(state.worth, fields, brothers, sharing));
        return sharer.firstEnvious(brothers);
    }

    public boolean mark(int row, int column, boolean is) throws IllegalArgumentException {
        refuseIf(isNot(row, 0, SIDE - 1) || isNot(column, 0, SIDE - 1));
        int cell = row * SIDE + column;
        boolean before = state.marks[cell] == 1;
        state.marks[cell] = is ? 1 : 0;
        return before;
    }

    public int agree(int rows, int columns) throws IllegalArgumentException {
        refuseIf(isNot(rows, 1, SIDE) || isNot(columns, 1, SIDE));
        return reckoner.fewestAnswers(state.marks, rows, columns);
    }

    public int rate(int good, int other, int a, int b) throws IllegalArgumentException {
        refuseIf(isNot(good, 0, GOODS - 1) || isNot(other, 0, GOODS - 1) || good == other);
        boolean off = a == 0 && b == 0;
        refuseIf(!off && (isNot(a, 1, 99) || isNot(b, 1, 99)));
        int cell = good * GOODS + other;
        int before = 100 * state.given[cell] + state.got[cell];
        state.given[cell] = a;
        state.got[cell] = b;
        return before;
    }

    public int trade(int goods, int what) throws IllegalArgumentException {
        refuseIf(isNot(goods, 2, GOODS) || isNot(what, 0, 1));
        reckoner.seekGain(state, goods);
        return what == 0 ? reckoner.bestRound : reckoner.gainOfThousand();
    }

    // ---- images and counts

    public int image() {
        if (imageCount >= IMAGES_ROOM) {
            return NONE;
        }
        State kept = images[imageCount];
        if (kept == null) {
            kept = new State();
            images[imageCount] = kept;
        }
        kept.copyFrom(state);
        imageCount++;
        return imageCount;
    }

    public int restore() {
        if (imageCount <= 0) {
            return NONE;
        }
        State latest = images[imageCount - 1];
        if (latest == null) {
            return NONE;
        }
        state.copyFrom(latest);
        imageCount--;
        return imageCount;
    }

    public int status(int what) {
        return isNot(what, 0, 3) ? NONE : refused[what];
    }

    public int count(int what) {
        switch (what) {
            case 0:
                return wayCount;
            case 1:
                return taskCount;
            case 2:
                return imageCount;
            case 3:
                return tape.length;
            default:
                return NONE;
        }
    }

    // ---- refusals

    private static boolean isNot(int value, int least, int most) {
        return value < least || value > most;
    }

    private boolean isNoHeap(int h) {
        return isNot(h, 0, state.valley[TOLD_HEAPS] - 1);
    }

    private boolean isNoPlace(int p) {
        return isNot(p, 0, state.valley[TOLD_PLACES] - 1);
    }

    private boolean isNoRange(int m, int n, int mostHeaps, int mostPebbles) {
        return isNot(m, 1, mostHeaps) || isNoHeap(m - 1) || isNot(n, 0, mostPebbles);
    }

    private boolean isNoLength(int acts) {
        return isNot(acts, 1, Trials.LONGEST) || acts > state.valley[TOLD_MIND];
    }

    private boolean isNoQuest(int m, int n, int acts, int most) {
        return isNoRange(m, n, 2, 3) || isNoLength(acts) || isNot(most, 1, MOST_TRIED);
    }

    private static boolean isNoParty(int fields, int brothers) {
        return isNot(fields, 1, FIELDS) || isNot(brothers, 1, BROTHERS);
    }

    private void refuseIf(boolean wrong) {
        if (wrong) {
            refused[2]++;
            throw new IllegalArgumentException();
        }
    }

    private void refuseElementIf(boolean wrong) {
        if (wrong) {
            refused[1]++;
            throw new NoSuchElementException();
        }
    }

    private void refuseBarred(Way asked) {
        if (asked.firstBarred(state.valley) != NONE) {
            refused[3]++;
            throw new IllegalStateException();
        }
    }

    private Way theWay(int way) {
        Way asked = isNot(way, 0, wayCount - 1) ? null : ways[way];
        if (asked == null) {
            refused[0]++;
            throw new IndexOutOfBoundsException();
        }
        return asked;
    }

    private Task theTask(int task) {
        Task due = isNot(task, 0, taskCount - 1) ? null : tasks[task];
        if (due == null) {
            refused[1]++;
            throw new NoSuchElementException();
        }
        return due;
    }

    // ---- shared by several calls

    private int adopt(Way found) {
        if (wayCount >= TEXTS_ROOM) {
            return NONE;
        }
        Way copy = new Way();
        copy.copyFrom(found);
        ways[wayCount] = copy;
        wayCount++;
        return wayCount - 1;
    }

    private static int flocksWithin(int m, int n) {
        int flocks = 1;
        for (int i = 0; i < m; i++) {
            flocks *= n + 1;
        }
        return flocks;
    }

    private boolean isMetFrom(Way asked, Task due, int flock, int m, int n) {
        runner.startSmall(flock, m, n);
        runner.follow(asked, RUN_LIMIT);
        return due.isMetBy(runner);
    }

    private int actsWithoutWrong(Way asked) {
        runner.startFrom(state);
        runner.follow(asked, RUN_LIMIT);
        return runner.acts;
    }

    private boolean isFound(Way asked, Task due, int k, int how) {
        runner.startFrom(state);
        runner.followWrong(asked, k, how);
        return !due.isMetBy(runner);
    }

    /** All that an IMAGE keeps. */
    private static final class State {
        final int[] valley = ValleyReader.WITHOUT.clone();
        final int[] heaps = new int[HEAPS];
        final int[] places = new int[PLACES];
        boolean ran;
        final int[] outcome = new int[4];
        final int[] leftHeaps = new int[HEAPS];
        final int[] leftPlaces = new int[PLACES];
        final int[] worth = new int[FIELDS * BROTHERS];
        final int[] marks = new int[SIDE * SIDE];
        final int[] given = new int[GOODS * GOODS];
        final int[] got = new int[GOODS * GOODS];
        final int[] rests = new int[GREATEST_DIVISOR + 1];

        State() {
            Arrays.fill(rests, NONE);
        }

        void copyFrom(State other) {
            System.arraycopy(other.valley, 0, valley, 0, TOLD);
            System.arraycopy(other.heaps, 0, heaps, 0, HEAPS);
            System.arraycopy(other.places, 0, places, 0, PLACES);
            ran = other.ran;
            System.arraycopy(other.outcome, 0, outcome, 0, outcome.length);
            System.arraycopy(other.leftHeaps, 0, leftHeaps, 0, HEAPS);
            System.arraycopy(other.leftPlaces, 0, leftPlaces, 0, PLACES);
            System.arraycopy(other.worth, 0, worth, 0, worth.length);
            System.arraycopy(other.marks, 0, marks, 0, marks.length);
            System.arraycopy(other.given, 0, given, 0, given.length);
            System.arraycopy(other.got, 0, got, 0, got.length);
            System.arraycopy(other.rests, 0, rests, 0, rests.length);
        }

        /** A new VALLEY: the tables stay, the FLOCK and the latest run do not. */
        void settle(int[] told) {
            System.arraycopy(told, 0, valley, 0, TOLD);
            Arrays.fill(heaps, 0);
            Arrays.fill(places, 0);
            ran = false;
        }

        void remember(Runner runner) {
            ran = true;
            outcome[0] = runner.ends;
            outcome[1] = runner.acts;
            outcome[2] = runner.at;
            outcome[3] = runner.said;
            System.arraycopy(runner.heaps, 0, leftHeaps, 0, HEAPS);
            System.arraycopy(runner.places, 0, leftPlaces, 0, PLACES);
        }

        void takeOver() {
            System.arraycopy(leftHeaps, 0, heaps, 0, HEAPS);
            System.arraycopy(leftPlaces, 0, places, 0, PLACES);
        }
    }

    /** The TAPE, and the text on it as tokens: one is looked at, the next one follows it. */
    private static final class Tape {
        static final int AT_END = 0;
        static final int WORD = 1;
        static final int NUMBER = 2;
        static final int SIGN = 3;

        // above every number that a text may hold, so more digits cannot bring it back
        static final int TOO_GREAT = 100000;

        final int[] bytes = new int[TAPE_ROOM];
        int length;
        int end;
        int start;
        int behind;
        int kind;
        int number;
        int faultKind;
        int faultPlace = NONE;

        void add(int four) {
            for (int shift = 24; shift >= 0; shift -= 8) {
                if (length < bytes.length) {
                    bytes[length] = four >>> shift & 255;
                    length++;
                }
            }
        }

        /** The text is read where it stands: nothing is fed before it has been read. */
        void begin(int n) {
            end = Math.max(0, Math.min(n, bytes.length));
            length = 0;
            behind = 0;
            faultKind = 0;
            faultPlace = NONE;
            advance();
        }

        void advance() {
            start = behind;
            while (start < end && bytes[start] == ' ') {
                start++;
            }
            behind = start;
            number = 0;
            kind = start < end ? kindOf(bytes[start]) : AT_END;
            if (kind == SIGN) {
                behind++;
                return;
            }
            while (behind < end && kindOf(bytes[behind]) == kind) {
                if (kind == NUMBER) {
                    number = Math.min(TOO_GREAT, 10 * number + bytes[behind] - '0');
                }
                behind++;
            }
        }

        private static int kindOf(int sign) {
            if (sign >= '0' && sign <= '9') {
                return NUMBER;
            }
            return sign >= 'a' && sign <= 'z' ? WORD : SIGN;
        }

        /** Always false, so that a reader can hand it on: none answers false without a FAULT. */
        boolean refuse(int fault) {
            faultKind = fault;
            faultPlace = start;
            return false;
        }

        int faultAnswer() {
            return faultKind - 10;
        }

        boolean isSign(char sign) {
            return kind == SIGN && start < end && bytes[start] == sign;
        }

        boolean takeSign(char sign) {
            if (!isSign(sign)) {
                return refuse(CANNOT_STAND);
            }
            advance();
            return true;
        }

        /** Which of the signs it is; NONE: none of them. */
        int signAmong(String signs) {
            for (int i = 0; i < signs.length(); i++) {
                if (isSign(signs.charAt(i))) {
                    return i;
                }
            }
            return NONE;
        }

        /** Which word of a list, parted by single blanks, it is; NONE: none of them. */
        int wordAmong(String list) {
            int index = 0;
            int from = 0;
            for (int i = 0; i <= list.length(); i++) {
                if (i == list.length() || list.charAt(i) == ' ') {
                    if (isWord(list, from, i)) {
                        return index;
                    }
                    index++;
                    from = i + 1;
                }
            }
            return NONE;
        }

        private boolean isWord(String list, int from, int to) {
            if (kind != WORD || behind - start != to - from) {
                return false;
            }
            for (int i = from; i < to; i++) {
                if (list.charAt(i) != bytes[start + i - from]) {
                    return false;
                }
            }
            return true;
        }

        /** A number in its bounds, but for one that is barred; NONE, with a FAULT, without. */
        int takeNumber(int least, int most, int barred) {
            if (kind != NUMBER) {
                refuse(CANNOT_STAND);
                return NONE;
            }
            if (isNot(number, least, most) || number == barred) {
                refuse(NO_SUCH_NUMBER);
                return NONE;
            }
            int taken = number;
            advance();
            return taken;
        }
    }

    private static final class ValleyReader {
        static final String WORDS = "heaps places mind words pairs moves";
        static final int[] WITHOUT = {2, 0, 24, 3, 0, 0};
        static final int[] LEAST = {1, 0, 1, 0};
        static final int[] MOST = {12, 24, 24, 3};

        final int[] told = new int[TOLD];
        private final boolean[] seen = new boolean[TOLD];
        int clauses;

        /** Six words, each once: a CLAUSE too many is always a word for the second time. */
        boolean reads(Tape tape) {
            System.arraycopy(WITHOUT, 0, told, 0, TOLD);
            for (int i = 0; i < TOLD; i++) {
                seen[i] = false;
            }
            clauses = 0;
            for (int i = 0; i <= TOLD && tape.kind != Tape.AT_END; i++) {
                if (!readsClause(tape)) {
                    return false;
                }
                clauses++;
            }
            return true;
        }

        private boolean readsClause(Tape tape) {
            int which = tape.wordAmong(WORDS);
            if (isNot(which, 0, TOLD - 1)) {
                return tape.refuse(CANNOT_STAND);
            }
            if (seen[which]) {
                return tape.refuse(SECOND_TIME);
            }
            seen[which] = true;
            tape.advance();
            int value = 1;
            if (which < MOST.length && which < LEAST.length) {
                value = tape.takeNumber(LEAST[which], MOST[which], NONE);
                if (value == NONE) {
                    return false;
                }
            }
            told[which] = value;
            return tape.takeSign(';');
        }
    }

    private static final class WayReader {
        static final String WORDS = "put take move pair empty up down none three go say end";
        static final int[] FIRST_MOST = {11, 11, 11, 11, 11, 23, 23, 23, 23, 24, 3, NONE};
        static final int[] SECOND_MOST =
                {NONE, NONE, 11, 11, 24, NONE, NONE, 24, 24, NONE, NONE, NONE};

        final Way read = new Way();

        boolean reads(Tape tape) {
            read.many = 0;
            for (int i = 0; i <= MOST_ACTS; i++) {
                if (tape.kind == Tape.AT_END) {
                    return i > 0 || tape.refuse(CANNOT_STAND);
                }
                int kind = tape.wordAmong(WORDS);
                if (isNot(kind, PUT, END)) {
                    return tape.refuse(CANNOT_STAND);
                }
                if (i == MOST_ACTS) {
                    return tape.refuse(TOO_MANY);
                }
                tape.advance();
                if (!readsNumbers(tape, kind)) {
                    return false;
                }
            }
            return tape.refuse(CANNOT_STAND);
        }

        private boolean readsNumbers(Tape tape, int kind) {
            if (isNot(kind, 0, FIRST_MOST.length - 1) || isNot(kind, 0, SECOND_MOST.length - 1)) {
                return tape.refuse(CANNOT_STAND);
            }
            int first = NONE;
            int second = NONE;
            if (FIRST_MOST[kind] != NONE) {
                first = tape.takeNumber(0, FIRST_MOST[kind], NONE);
                if (first == NONE) {
                    return false;
                }
            }
            if (SECOND_MOST[kind] != NONE) {
                int barred = kind == MOVE || kind == PAIR ? first : NONE;
                second = tape.takeNumber(0, SECOND_MOST[kind], barred);
                if (second == NONE) {
                    return false;
                }
            }
            read.add(kind, first, second);
            return tape.takeSign(';');
        }
    }

    private static final class Way {
        final int[] kinds = new int[MOST_ACTS];
        final int[] firsts = new int[MOST_ACTS];
        final int[] seconds = new int[MOST_ACTS];
        int many;

        void add(int kind, int first, int second) {
            if (many < MOST_ACTS) {
                many++;
                change(many - 1, kind, first, second);
            }
        }

        void change(int k, int kind, int first, int second) {
            if (!isNot(k, 0, MOST_ACTS - 1)) {
                kinds[k] = kind;
                firsts[k] = first;
                seconds[k] = second;
            }
        }

        void copyFrom(Way other) {
            System.arraycopy(other.kinds, 0, kinds, 0, MOST_ACTS);
            System.arraycopy(other.firsts, 0, firsts, 0, MOST_ACTS);
            System.arraycopy(other.seconds, 0, seconds, 0, MOST_ACTS);
            many = other.many;
        }

        /** The first ACT by which it is not ALLOWED. */
        int firstBarred(int[] valley) {
            for (int k = 0; k < many && k < MOST_ACTS; k++) {
                if (k >= valley[TOLD_MIND] || !allows(k, valley)) {
                    return k;
                }
            }
            return NONE;
        }

        private boolean allows(int k, int[] valley) {
            int heaps = valley[TOLD_HEAPS];
            int places = valley[TOLD_PLACES];
            int first = firsts[k];
            int second = seconds[k];
            switch (kinds[k]) {
                case PUT:
                case TAKE:
                    return first < heaps;
                case MOVE:
                    return valley[TOLD_MOVES] == 1 && first < heaps && second < heaps;
                case PAIR:
                    return valley[TOLD_PAIRS] == 1 && first < heaps && second < heaps;
                case EMPTY:
                    return first < heaps && second <= many;
                case UP:
                case DOWN:
                    return first < places;
                case NOUGHT:
                case THREE:
                    return first < places && second <= many;
                case GO:
                    return first <= many;
                case SAY:
                    return first <= valley[TOLD_WORDS];
                default:
                    return true;
            }
        }
    }

    /**
     * A TASK is read straight into the order in which it is worked: values ahead of their sign.
     * Signs that still lack their right side wait, and so do ( [ and not till they end.
     */
    private static final class TaskReader {
        static final int MOST_CONDITIONS = 12;
        static final int MOST_OPEN = 6;
        static final int GREATEST = 9999;
        static final String VALUES = "was now at said";
        static final String BEGINNINGS = "was now at said not";

        static final int ROUND = 16;
        static final int SQUARE = 17;
        // how closely the signs of a Task bind, by their numbers; what is open binds nothing
        static final int[] RANKS = {0, 0, 0, 0, 0, 5, 5, 6, 6, 4, 4, 4, 1, 2, 3, 0, 0, 0};
        // six that are open, and at most five signs outside them and two more in each
        static final int WAITING_ROOM = 32;

        private final int[] signs = new int[TAPE_ROOM];
        private final int[] numbers = new int[TAPE_ROOM];
        private int size;
        private final int[] waiting = new int[WAITING_ROOM];
        private int top;
        private int open;
        // whether a value comes next, and whether a B begins with it
        private boolean lacksValue;
        private boolean beginsBasic;
        // of the B that is read: whether its last part is a value, and whether < > or = was there
        private boolean endsInValue;
        private boolean compared;
        private boolean ended;

        Task made() {
            int fit = Math.max(0, Math.min(size, TAPE_ROOM));
            return new Task(Arrays.copyOf(signs, fit), Arrays.copyOf(numbers, fit));
        }

        boolean reads(Tape tape) {
            size = 0;
            top = 0;
            open = 0;
            for (int i = 0; i <= MOST_CONDITIONS; i++) {
                if (tape.kind == Tape.AT_END) {
                    return i > 0 || tape.refuse(CANNOT_STAND);
                }
                if (i == MOST_CONDITIONS) {
                    return tape.refuse(faultOfOneMore(tape));
                }
                if (!readsCondition(tape)) {
                    return false;
                }
            }
            return tape.refuse(CANNOT_STAND);
        }

        /** Of FAULTS at one byte the least counts, so what stands there is looked at first. */
        private static int faultOfOneMore(Tape tape) {
            if (tape.kind == Tape.NUMBER) {
                return tape.number > GREATEST ? NO_SUCH_NUMBER : TOO_MANY;
            }
            boolean begins = tape.wordAmong(BEGINNINGS) != NONE || tape.signAmong("([") != NONE;
            return begins ? TOO_MANY : CANNOT_STAND;
        }

        /**
         * One C with its semicolon. Each turn takes a byte at least, and one more than there are
         * bytes finds that a text that fills the TAPE ends too early.
         */
        private boolean readsCondition(Tape tape) {
            ended = false;
            awaitValue(true);
            for (int i = 0; i <= TAPE_ROOM && !ended; i++) {
                if (lacksValue ? !readsValue(tape) : !readsSign(tape)) {
                    return false;
                }
            }
            return ended || tape.refuse(CANNOT_STAND);
        }

        private void awaitValue(boolean ofNewBasic) {
            lacksValue = true;
            beginsBasic = ofNewBasic;
            if (ofNewBasic) {
                compared = false;
            }
        }

        private void complete(boolean inValue) {
            lacksValue = false;
            endsInValue = inValue;
        }

        private boolean readsValue(Tape tape) {
            if (tape.isSign('(')) {
                return opens(tape, ROUND);
            }
            if (beginsBasic && tape.isSign('[')) {
                return opens(tape, SQUARE);
            }
            if (beginsBasic && tape.wordAmong("not") == 0) {
                return opens(tape, Task.NOT);
            }
            int sign = Task.NUMBER;
            int most = GREATEST;
            if (tape.kind != Tape.NUMBER) {
                int which = tape.wordAmong(VALUES);
                if (which == NONE) {
                    return tape.refuse(CANNOT_STAND);
                }
                sign = Task.WAS + which;
                most = sign == Task.AT ? PLACES - 1 : HEAPS - 1;
                tape.advance();
            }
            int number = sign == Task.SAID ? 0 : tape.takeNumber(0, most, NONE);
            if (number == NONE) {
                return false;
            }
            add(sign, number);
            complete(true);
            return true;
        }

        private boolean opens(Tape tape, int what) {
            if (open >= MOST_OPEN) {
                return tape.refuse(TOO_MANY);
            }
            open++;
            letWait(what);
            tape.advance();
            awaitValue(what != ROUND);
            return true;
        }

        private boolean readsSign(Tape tape) {
            int which = endsInValue ? tape.signAmong("+-*/") : NONE;
            if (which != NONE) {
                return joins(tape, Task.PLUS + which, false);
            }
            int innermost = innermostOpen();
            if (innermost == ROUND) {
                return closes(tape, ')', true);
            }
            if (endsInValue && !compared) {
                which = tape.signAmong("<>=");
                compared = true;
                return which == NONE ? tape.refuse(CANNOT_STAND)
                        : joins(tape, Task.LESS + which, false);
            }
            which = tape.wordAmong("or and");
            if (which != NONE) {
                return joins(tape, Task.OR + which, true);
            }
            return innermost == SQUARE ? closes(tape, ']', false) : endsCondition(tape);
        }

        private boolean joins(Tape tape, int sign, boolean newBasic) {
            workOff(rankOf(sign));
            letWait(sign);
            tape.advance();
            awaitValue(newBasic);
            return true;
        }

        private boolean closes(Tape tape, char sign, boolean inValue) {
            if (!tape.takeSign(sign)) {
                return false;
            }
            workOff(1);
            top = Math.max(0, top - 1);
            open--;
            complete(inValue);
            return true;
        }

        private boolean endsCondition(Tape tape) {
            if (!tape.takeSign(';')) {
                return false;
            }
            workOff(1);
            add(Task.MUST, 0);
            ended = true;
            return true;
        }

        private void letWait(int sign) {
            if (top < WAITING_ROOM) {
                waiting[top] = sign;
                top++;
            }
        }

        /** All that wait and bind at least so closely have their right side now. */
        private void workOff(int rank) {
            while (top > 0 && top <= WAITING_ROOM && rankOf(waiting[top - 1]) >= rank) {
                top--;
                if (waiting[top] == Task.NOT) {
                    open--;
                }
                add(waiting[top], 0);
            }
        }

        private static int rankOf(int sign) {
            return isNot(sign, 0, RANKS.length - 1) ? 0 : RANKS[sign];
        }

        private int innermostOpen() {
            for (int i = Math.min(top, WAITING_ROOM) - 1; i >= 0; i--) {
                if (waiting[i] == ROUND || waiting[i] == SQUARE) {
                    return waiting[i];
                }
            }
            return NONE;
        }

        private void add(int sign, int number) {
            if (size < TAPE_ROOM) {
                signs[size] = sign;
                numbers[size] = number;
                size++;
            }
        }
    }

    private static final class Task {
        static final int NUMBER = 0;
        static final int WAS = 1;
        static final int NOW = 2;
        static final int AT = 3;
        static final int SAID = 4;
        static final int PLUS = 5;
        static final int MINUS = 6;
        static final int TIMES = 7;
        static final int OVER = 8;
        static final int LESS = 9;
        static final int MORE = 10;
        static final int SAME = 11;
        static final int OR = 12;
        static final int AND = 13;
        static final int NOT = 14;
        static final int MUST = 15;

        // six that are open wait with two values each, and five stand outside them
        static final int STACK_ROOM = 32;

        private final int[] signs;
        private final int[] numbers;
        private final int[] stack = new int[STACK_ROOM];

        Task(int[] signs, int[] numbers) {
            this.signs = signs;
            this.numbers = numbers;
        }

        boolean isMetBy(Runner runner) {
            return (runner.ends == ENDED || runner.ends == ENDED_BY_WORD) && isTrueOf(runner);
        }

        boolean isTrueOf(Runner runner) {
            int top = 0;
            for (int i = 0; i < signs.length && i < numbers.length; i++) {
                int sign = signs[i];
                if (sign <= SAID) {
                    if (top >= STACK_ROOM) {
                        return false;
                    }
                    stack[top] = valueOf(sign, numbers[i], runner);
                    top++;
                } else if (sign < NOT) {
                    if (top < 2) {
                        return false;
                    }
                    top--;
                    stack[top - 1] = worked(sign, stack[top - 1], stack[top]);
                } else if (top < 1) {
                    return false;
                } else if (sign == NOT) {
                    stack[top - 1] = 1 - stack[top - 1];
                } else {
                    top--;
                    if (stack[top] == 0) {
                        return false;
                    }
                }
            }
            return true;
        }

        private static int valueOf(int sign, int number, Runner runner) {
            switch (sign) {
                case WAS:
                    return isNot(number, 0, HEAPS - 1) ? 0 : runner.was[number];
                case NOW:
                    return isNot(number, 0, HEAPS - 1) ? 0 : runner.heaps[number];
                case AT:
                    return isNot(number, 0, PLACES - 1) ? 0 : runner.places[number];
                case SAID:
                    return runner.said;
                default:
                    return number;
            }
        }

        private static int worked(int sign, int a, int b) {
            switch (sign) {
                case PLUS:
                    return a + b;
                case MINUS:
                    return a - b;
                case TIMES:
                    return a * b;
                case OVER:
                    return b == 0 ? 0 : a / b;
                case LESS:
                    return a < b ? 1 : 0;
                case MORE:
                    return a > b ? 1 : 0;
                case SAME:
                    return a == b ? 1 : 0;
                case AND:
                    return a & b;
                default:
                    return a | b;
            }
        }
    }

    /** A RUN, act by act. The WAY is ALLOWED. */
    private static final class Runner {
        final int[] was = new int[HEAPS];
        final int[] heaps = new int[HEAPS];
        final int[] places = new int[PLACES];
        int at;
        int acts;
        int ends;
        int said;

        void startFrom(State flock) {
            System.arraycopy(flock.heaps, 0, was, 0, HEAPS);
            System.arraycopy(flock.places, 0, places, 0, PLACES);
            begin();
        }

        /** The FLOCKS in the order of their numbers: the digits of i to the base n + 1. */
        void startSmall(int i, int m, int n) {
            Arrays.fill(was, 0);
            Arrays.fill(places, 0);
            int base = Math.max(1, n + 1);
            int rest = i;
            for (int h = Math.min(m, HEAPS) - 1; h >= 0; h--) {
                was[h] = rest % base;
                rest /= base;
            }
            begin();
        }

        private void begin() {
            System.arraycopy(was, 0, heaps, 0, HEAPS);
            at = 0;
            acts = 0;
            ends = GOING;
            said = NOTHING_SAID;
        }

        int flockNumber(int m) {
            int number = 0;
            for (int h = 0; h < m && h < HEAPS; h++) {
                number = 10 * number + was[h];
            }
            return number;
        }

        /** So many ACTS more, at most. */
        void follow(Way way, int limit) {
            for (int i = 0; i < limit && ends == GOING; i++) {
                if (isDone(way)) {
                    acts++;
                    moveOn(way);
                } else {
                    ends = FAILED;
                }
            }
        }

        /** How 0: the k-th ACT is left out; 1: it is done twice. */
        void followWrong(Way way, int k, int how) {
            follow(way, k);
            if (ends != GOING) {
                return;
            }
            if (how == 0) {
                acts++;
                at++;
                endBehindLast(way);
            } else if (isDone(way) && isDone(way)) {
                acts++;
                moveOn(way);
            } else {
                ends = FAILED;
            }
            follow(way, RUN_LIMIT - k - 1);
        }

        /** Whether the TASK is true each time the RUN comes to the ACT k. */
        boolean keepsAt(Way way, Task task, int k) {
            boolean comes = true;
            for (int i = 0; i <= RUN_LIMIT && comes; i++) {
                if (at == k && !task.isTrueOf(this)) {
                    return false;
                }
                if (ends != GOING) {
                    return true;
                }
                follow(way, 1);
                // by say, by end and by what cannot be done it comes to no other ACT
                comes = ends == GOING || at >= way.many;
            }
            return true;
        }

        private boolean isDone(Way way) {
            if (isNot(at, 0, way.many - 1) || at >= MOST_ACTS) {
                return false;
            }
            int first = way.firsts[at];
            int second = way.seconds[at];
            switch (way.kinds[at]) {
                case PUT:
                    return isChanged(heaps, first, 1, BILLION);
                case TAKE:
                    return isChanged(heaps, first, -1, BILLION);
                case MOVE:
                    return areChanged(first, second, 1);
                case PAIR:
                    return areChanged(first, second, -1);
                case UP:
                    return isChanged(places, first, 1, 3);
                case DOWN:
                    return isChanged(places, first, -1, 3);
                default:
                    return true;
            }
        }

        private static boolean isChanged(int[] row, int i, int by, int most) {
            if (i < 0 || i >= row.length || row[i] + by < 0 || row[i] + by > most) {
                return false;
            }
            row[i] += by;
            return true;
        }

        /** One less in the first; if the second cannot be changed, nothing is. */
        private boolean areChanged(int first, int second, int by) {
            if (!isChanged(heaps, first, -1, BILLION)) {
                return false;
            }
            if (isChanged(heaps, second, by, BILLION)) {
                return true;
            }
            isChanged(heaps, first, 1, BILLION);
            return false;
        }

        private void moveOn(Way way) {
            if (isNot(at, 0, MOST_ACTS - 1)) {
                return;
            }
            int first = way.firsts[at];
            int second = way.seconds[at];
            switch (way.kinds[at]) {
                case EMPTY:
                    at = has(heaps, first, 0) ? second : at + 1;
                    break;
                case NOUGHT:
                    at = has(places, first, 0) ? second : at + 1;
                    break;
                case THREE:
                    at = has(places, first, 3) ? second : at + 1;
                    break;
                case GO:
                    at = first;
                    break;
                case SAY:
                    said = first;
                    ends = ENDED_BY_WORD;
                    break;
                case END:
                    ends = ENDED;
                    break;
                default:
                    at++;
            }
            endBehindLast(way);
        }

        private static boolean has(int[] row, int i, int value) {
            return !isNot(i, 0, row.length - 1) && row[i] == value;
        }

        private void endBehindLast(Way way) {
            if (ends == GOING && at >= way.many) {
                ends = ENDED;
            }
        }
    }

    /** WAYS of one length, one after the other, by the order of their ACTS. */
    private static final class Trials {
        static final int LONGEST = 3;
        static final int MOST_HEAPS = 3;
        // three heaps, three words and jumps among four: 6 + 6 + 3 + 12 + 4 + 4 + 1
        static final int LETTERS = 36;

        private final Runner runner = new Runner();
        private final int[] kinds = new int[LETTERS];
        private final int[] firsts = new int[LETTERS];
        private final int[] seconds = new int[LETTERS];
        private int many;
        private final int[] picks = new int[LONGEST];
        final Way way = new Way();
        int tried;

        /** Whether one is found: the way then stands on it. */
        boolean seek(Task due, int[] valley, int m, int n, int longest, int most) {
            tried = 0;
            for (int length = 1; length <= longest && length <= LONGEST; length++) {
                begin(length, Math.min(MOST_HEAPS, valley[TOLD_HEAPS]), valley);
                int all = waysOfLength();
                for (int i = 0; i < all && tried < most; i++) {
                    if (i > 0) {
                        advance();
                    }
                    tried++;
                    if (doesAll(due, m, n)) {
                        return true;
                    }
                }
            }
            return false;
        }

        /** Goes on from the one that was found, which is lost by it. */
        int countRivals(Task due, int m, int n, int most) {
            int rivals = 1;
            for (int i = tried; i < most && advance(); i++) {
                if (doesAll(due, m, n)) {
                    rivals++;
                }
            }
            return rivals;
        }

        int pickAt(int k) {
            return k >= 0 && k < way.many && k < LONGEST ? picks[k] : NONE;
        }

        boolean tellApart(int longest, int a, int b, int[] valley) {
            for (int length = 1; length <= longest && length <= LONGEST; length++) {
                begin(length, 1, valley);
                int all = waysOfLength();
                for (int i = 0; i < all; i++) {
                    if (endOf(a) != endOf(b)) {
                        return true;
                    }
                    advance();
                }
            }
            return false;
        }

        /** How the RUN of one number ENDS and what was SAID, in one. */
        private int endOf(int number) {
            runner.startSmall(number, 1, 9);
            runner.follow(way, TRIAL_LIMIT);
            return 10 * runner.ends + runner.said;
        }

        private boolean doesAll(Task due, int m, int n) {
            int flocks = flocksWithin(m, n);
            for (int i = 0; i < flocks; i++) {
                runner.startSmall(i, m, n);
                runner.follow(way, TRIAL_LIMIT);
                if (!due.isMetBy(runner)) {
                    return false;
                }
            }
            return true;
        }

        private int waysOfLength() {
            int all = 1;
            for (int i = 0; i < way.many && i < LONGEST; i++) {
                all *= many;
            }
            return all;
        }

        private void begin(int length, int heaps, int[] valley) {
            many = 0;
            addChanges(heaps);
            if (heaps > 1) {
                addPairs(heaps, valley);
            }
            addJumps(heaps, length);
            for (int word = 0; word <= valley[TOLD_WORDS]; word++) {
                add(SAY, word, NONE);
            }
            add(END, NONE, NONE);
            way.many = Math.min(length, LONGEST);
            for (int k = 0; k < way.many; k++) {
                pick(k, 0);
            }
        }

        private void addChanges(int heaps) {
            for (int h = 0; h < heaps; h++) {
                add(PUT, h, NONE);
                add(TAKE, h, NONE);
            }
        }

        private void addPairs(int heaps, int[] valley) {
            for (int h = 0; h < heaps && valley[TOLD_MOVES] == 1; h++) {
                for (int other = 0; other < heaps; other++) {
                    if (other != h) {
                        add(MOVE, h, other);
                    }
                }
            }
            for (int h = 0; h < heaps && valley[TOLD_PAIRS] == 1; h++) {
                for (int other = h + 1; other < heaps; other++) {
                    add(PAIR, h, other);
                }
            }
        }

        private void addJumps(int heaps, int length) {
            for (int h = 0; h < heaps; h++) {
                for (int to = 0; to <= length; to++) {
                    add(EMPTY, h, to);
                }
            }
            for (int to = 0; to <= length; to++) {
                add(GO, to, NONE);
            }
        }

        private void add(int kind, int first, int second) {
            if (many < LETTERS) {
                kinds[many] = kind;
                firsts[many] = first;
                seconds[many] = second;
                many++;
            }
        }

        private void pick(int k, int letter) {
            if (!isNot(k, 0, LONGEST - 1) && !isNot(letter, 0, LETTERS - 1)) {
                picks[k] = letter;
                way.change(k, kinds[letter], firsts[letter], seconds[letter]);
            }
        }

        /** Whether there was another one of this length. */
        private boolean advance() {
            for (int k = Math.min(way.many, LONGEST) - 1; k >= 0; k--) {
                if (picks[k] + 1 < many) {
                    pick(k, picks[k] + 1);
                    return true;
                }
                pick(k, 0);
            }
            return false;
        }
    }

    private static final class Sharer {
        int best;
        int bestWorth;
        int fairOnes;
        // what a BROTHER thinks another one's FIELDS worth, row by row
        private final int[] thought = new int[BROTHERS * BROTHERS];

        /** Whether it is a SHARING of so many among so many; thought is of it then. */
        boolean divide(int[] worth, int fields, int brothers, int sharing) {
            Arrays.fill(thought, 0);
            if (isNot(sharing, 0, sharingsOf(fields) - 1)) {
                return false;
            }
            int rest = sharing;
            for (int f = Math.min(fields, FIELDS) - 1; f >= 0; f--) {
                int owner = rest % BROTHERS;
                rest /= BROTHERS;
                if (owner >= brothers) {
                    return false;
                }
                for (int b = 0; b < brothers && b < BROTHERS; b++) {
                    thought[b * BROTHERS + owner] += worth[f * BROTHERS + b];
                }
            }
            return true;
        }

        private static int sharingsOf(int fields) {
            int sharings = 1;
            for (int f = 0; f < fields; f++) {
                sharings *= BROTHERS;
            }
            return sharings;
        }

        int firstEnvious(int brothers) {
            for (int b = 0; b < brothers && b < BROTHERS; b++) {
                int own = thought[b * BROTHERS + b];
                for (int other = 0; other < brothers && other < BROTHERS; other++) {
                    if (thought[b * BROTHERS + other] > own) {
                        return b;
                    }
                }
            }
            return NONE;
        }

        void seekFair(int[] worth, int fields, int brothers) {
            best = NONE;
            bestWorth = NONE;
            fairOnes = 0;
            int sharings = sharingsOf(fields);
            for (int s = 0; s < sharings; s++) {
                if (divide(worth, fields, brothers, s) && firstEnvious(brothers) == NONE) {
                    fairOnes++;
                    int together = ownTogether(brothers);
                    if (together > bestWorth) {
                        best = s;
                        bestWorth = together;
                    }
                }
            }
        }

        private int ownTogether(int brothers) {
            int together = 0;
            for (int b = 0; b < brothers && b < BROTHERS; b++) {
                together += thought[b * BROTHERS + b];
            }
            return together;
        }

        int leastSpread(int[] worth, int fields, int brothers) {
            int least = fields * MOST_WORTH;
            int sharings = sharingsOf(fields);
            for (int s = 0; s < sharings; s++) {
                if (divide(worth, fields, brothers, s)) {
                    least = Math.min(least, spread(brothers));
                }
            }
            return least;
        }

        private int spread(int brothers) {
            int greatest = thought[0];
            int least = thought[0];
            for (int b = 1; b < brothers && b < BROTHERS; b++) {
                int own = thought[b * BROTHERS + b];
                greatest = Math.max(greatest, own);
                least = Math.min(least, own);
            }
            return greatest - least;
        }
    }

    private static final class Reckoner {
        static final int SETS = 1 << SIDE;
        static final int ENDINGS = 64;
        // four to this is above the greatest n of WHOLE numbers
        static final int DIGITS = 15;
        static final int PERIOD = 2520;
        static final int MOST_GOODS_OF_A_ROUND = 4;

        // AGREE of every set of rows with every set of columns
        private final int[] answers = new int[SETS * SETS];
        private int[] endings = new int[ENDINGS];
        private int[] longer = new int[ENDINGS];
        private final int[] round = new int[MOST_GOODS_OF_A_ROUND];
        int bestRound;
        private long bestGot;
        private long bestGiven;
        private long roundGot;
        private long roundGiven;

        static int placesFor(int n) {
            int places = 1;
            for (int rest = n / 4; rest > 0; rest /= 4) {
                places++;
            }
            return places;
        }

        static int pebblesOf(int n) {
            int pebbles = 0;
            for (int rest = n; rest > 0; rest /= 4) {
                pebbles += rest % 4;
            }
            return pebbles;
        }

        /** The greatest is n itself, or has threes behind a digit that is one less than n's. */
        static int mostPebbles(int n) {
            int most = pebblesOf(n);
            int threes = 0;
            for (int rest = n; rest > 0; rest /= 4) {
                most = Math.max(most, pebblesOf(rest - 1) + threes);
                threes += 3;
            }
            return most;
        }

        static int telling(int n, int w) {
            int words = 0;
            for (long rows = 1; rows <= n; rows *= Math.max(2, w + 1)) {
                words++;
            }
            return words;
        }

        static int fewStates(long words, int many, int what) {
            for (int few = 1; few <= many; few++) {
                for (int t = 0; t < few; t++) {
                    if (comesAgain(words, many, t, few - t)) {
                        return what == 0 ? few : what == 1 ? t : few - t;
                    }
                }
            }
            return NONE;
        }

        private static boolean comesAgain(long words, int many, int t, int after) {
            for (int i = t; i + after < many; i++) {
                if ((words >>> 2 * i & 3) != (words >>> 2 * (i + after) & 3)) {
                    return false;
                }
            }
            return true;
        }

        /** Noughts may stand ahead of a number, as no word begins with one. */
        int wholeNumbers(int n, int word) {
            int span = 1;
            for (int i = 0; i < 3 && span * 4 <= word; i++) {
                span *= 4;
            }
            Arrays.fill(endings, 0);
            int ownEnding = 0;
            for (int i = DIGITS - 1; i >= 0; i--) {
                int digit = n >>> 2 * i & 3;
                lengthen(word, span);
                for (int d = 0; d < digit && ownEnding != NONE; d++) {
                    addEnding(4 * ownEnding + d, 1, word, span);
                }
                if (ownEnding != NONE) {
                    int longerOwn = 4 * ownEnding + digit;
                    ownEnding = longerOwn == word ? NONE : longerOwn & span - 1;
                }
                int[] spare = endings;
                endings = longer;
                longer = spare;
            }
            int sum = ownEnding == NONE ? 0 : 1;
            for (int e = 0; e < ENDINGS; e++) {
                sum += endings[e];
            }
            return sum;
        }

        /** Numbers below n so far get each digit: only as many last ones count as a word has. */
        private void lengthen(int word, int span) {
            Arrays.fill(longer, 0);
            for (int e = 0; e < span && e < ENDINGS; e++) {
                for (int d = 0; d < 4; d++) {
                    addEnding(4 * e + d, endings[e], word, span);
                }
            }
        }

        private void addEnding(int ending, int numbers, int word, int span) {
            int kept = ending & span - 1;
            if (ending != word && kept < ENDINGS) {
                longer[kept] += numbers;
            }
        }

        static int oldWoman(int[] rests, int n, int what) {
            int apart = 1;
            for (int by = 2; by <= GREATEST_DIVISOR; by++) {
                if (rests[by] != NONE) {
                    apart = commonMultiple(apart, by);
                }
            }
            int least = leastThatLeaves(rests, n);
            if (least == NONE) {
                return what == 1 ? 0 : NONE;
            }
            int more = (n - least) / Math.max(1, apart);
            if (what == 0) {
                return least;
            }
            return what == 1 ? more + 1 : least + more * apart;
        }

        private static int commonMultiple(int a, int by) {
            for (int times = 1; times <= GREATEST_DIVISOR; times++) {
                if (by > 0 && a * times % by == 0) {
                    return a * times;
                }
            }
            return a;
        }

        private static int leastThatLeaves(int[] rests, int n) {
            for (int x = 0; x < PERIOD && x <= n; x++) {
                boolean leaves = true;
                for (int by = 2; by <= GREATEST_DIVISOR; by++) {
                    leaves = leaves && (rests[by] == NONE || x % by == rests[by]);
                }
                if (leaves) {
                    return x;
                }
            }
            return NONE;
        }

        /** Parts of a set have lesser numbers than it has, so they are worked out ahead of it. */
        int fewestAnswers(int[] marks, int rows, int columns) {
            int allRows = Math.min(SETS, 1 << rows) - 1;
            int allColumns = Math.min(SETS, 1 << columns) - 1;
            for (int r = 1; r <= allRows; r++) {
                for (int c = 1; c <= allColumns; c++) {
                    answers[r * SETS + c] = areAlike(marks, r, c) ? 0 : 1 + leastParting(r, c);
                }
            }
            return answers[allRows * SETS + allColumns];
        }

        private static boolean areAlike(int[] marks, int rows, int columns) {
            int cells = 0;
            int marked = 0;
            for (int cell = 0; cell < marks.length; cell++) {
                if ((rows >> cell / SIDE & 1) == 1 && (columns >> cell % SIDE & 1) == 1) {
                    cells++;
                    marked += marks[cell];
                }
            }
            return marked == 0 || marked == cells;
        }

        private int leastParting(int r, int c) {
            int least = 2 * SIDE;
            for (int part = 1; part < r; part++) {
                if ((part & r) == part) {
                    least = Math.min(least, greater(part * SETS + c, (r - part) * SETS + c));
                }
            }
            for (int part = 1; part < c; part++) {
                if ((part & c) == part) {
                    least = Math.min(least, greater(r * SETS + part, r * SETS + c - part));
                }
            }
            return least;
        }

        private int greater(int one, int other) {
            if (isNot(one, 0, answers.length - 1) || isNot(other, 0, answers.length - 1)) {
                return 2 * SIDE;
            }
            return Math.max(answers[one], answers[other]);
        }

        /** Fewer GOODS and lesser digits come first, so only a greater ROUND takes the place. */
        void seekGain(State state, int goods) {
            bestRound = NONE;
            bestGot = 1;
            bestGiven = 1;
            for (int length = 2; length <= MOST_GOODS_OF_A_ROUND; length++) {
                int rounds = 1 << 3 * length;
                for (int digits = 0; digits < rounds; digits++) {
                    if (isRound(digits, length, goods) && isTraded(state, length)
                            && roundGot * bestGiven > bestGot * roundGiven) {
                        bestRound = digits;
                        bestGot = roundGot;
                        bestGiven = roundGiven;
                    }
                }
            }
        }

        private boolean isRound(int digits, int length, int goods) {
            int seen = 0;
            for (int i = 0; i < length && i < MOST_GOODS_OF_A_ROUND; i++) {
                int good = digits >> 3 * (length - 1 - i) & 7;
                if (good >= goods || (seen >> good & 1) == 1) {
                    return false;
                }
                seen |= 1 << good;
                round[i] = good;
            }
            return true;
        }

        private boolean isTraded(State state, int length) {
            roundGot = 1;
            roundGiven = 1;
            for (int i = 0; i < length && i < MOST_GOODS_OF_A_ROUND; i++) {
                int next = i + 1 < length && i + 1 < MOST_GOODS_OF_A_ROUND ? round[i + 1] : round[0];
                int cell = round[i] * GOODS + next;
                if (isNot(cell, 0, GOODS * GOODS - 1) || state.given[cell] == 0) {
                    return false;
                }
                roundGot *= state.got[cell];
                roundGiven *= state.given[cell];
            }
            return true;
        }

        int gainOfThousand() {
            if (bestRound == NONE || bestGiven <= 0) {
                return NONE;
            }
            return (int) Math.min((long) BILLION, 1000 * bestGot / bestGiven);
        }
    }
}

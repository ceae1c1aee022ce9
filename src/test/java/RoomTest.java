import com.sun.management.ThreadMXBean;
import java.lang.management.ManagementFactory;
import java.lang.reflect.Array;
import java.lang.reflect.Field;
import java.lang.reflect.Modifier;
import java.util.ArrayDeque;
import java.util.Collections;
import java.util.Deque;
import java.util.IdentityHashMap;
import java.util.Set;

/** LANGUAGE.md, rule 12: what an object keeps is little, and calls that add nothing make nothing. */
public final class RoomTest {
    private static final int CALLS = 100;
    // what the machine itself may take meanwhile; one row of 12 numbers a call would be 64 times as many
    private static final int SLACK = 4000;

    /** A call that boxes nothing. */
    private interface Call {
        int of(NothingAboveThree x);
    }

    public static void main(String[] args) {
        keptAtFirst();
        keptWhenFull();
        madeByCalls();
        Check.end();
    }

    private static NothingAboveThree full() {
        NothingAboveThree x = Check.in("heaps 3;places 2;moves;pairs;");
        for (int i = 0; i < 7; i++) {
            Check.way(x, "empty 0 4;take 0;put 1;go 0;");
            Check.task(x, "1+".repeat(197) + "1=198;");
            x.image();
        }
        x.heap(0, 9);
        x.rate(0, 1, 1, 2);
        x.rate(1, 0, 1, 2);
        return x;
    }

    private static void keptAtFirst() {
        int[] kept = kept(new NothingAboveThree());
        Check.due(true, "objects at first: " + kept[0], () -> kept[0] < 100);
        Check.due(true, "fields and elements at first: " + kept[1], () -> kept[1] < 10000);
    }

    private static void keptWhenFull() {
        int[] kept = kept(full());
        Check.due(true, "objects of a full one: " + kept[0], () -> kept[0] < 200);
        Check.due(true, "fields and elements of a full one: " + kept[1], () -> kept[1] < 20000);
    }

    /** How many objects and arrays are there, and how many fields and elements these have. */
    private static int[] kept(Object root) {
        Set<Object> seen = Collections.newSetFromMap(new IdentityHashMap<>());
        Deque<Object> waiting = new ArrayDeque<>();
        waiting.add(root);
        int[] kept = {0, 0};
        while (!waiting.isEmpty()) {
            Object one = waiting.remove();
            if (seen.add(one)) {
                kept[0]++;
                kept[1] += one.getClass().isArray() ? elements(one, waiting) : fields(one, waiting);
            }
        }
        return kept;
    }

    private static int elements(Object array, Deque<Object> waiting) {
        int length = Array.getLength(array);
        for (int i = 0; i < length && !array.getClass().getComponentType().isPrimitive(); i++) {
            if (Array.get(array, i) != null) {
                waiting.add(Array.get(array, i));
            }
        }
        return length;
    }

    private static int fields(Object one, Deque<Object> waiting) {
        int count = 0;
        for (Field f : one.getClass().getDeclaredFields()) {
            if (Modifier.isStatic(f.getModifiers())) {
                continue;
            }
            count++;
            try {
                f.setAccessible(true);
                if (!f.getType().isPrimitive() && f.get(one) != null) {
                    waiting.add(f.get(one));
                }
            } catch (IllegalAccessException e) {
                Check.due("", "a field that cannot be read", () -> f);
            }
        }
        return count;
    }

    private static void madeByCalls() {
        Call[] calls = {x -> x.feed(0, 0, 0, 0, 0), x -> x.valley(0), x -> x.way(0), x -> x.task(0),
            x -> x.fault(), x -> x.told(0), x -> x.act(0, 0, 0), x -> x.judge(0), x -> x.heap(0, 1),
            x -> x.run(0, 4000), x -> x.ends(0), x -> x.row(0), x -> x.on(), x -> x.holds(0, 0) ? 1 : 0,
            x -> x.right(0, 0, 2, 9), x -> x.least(0, 0, 2, 9), x -> x.find(0, 1, 3, 2, 20000, 2),
            x -> x.keep(0, 1, 3, 2, 20000), x -> x.can(2, 8, 9) ? 1 : 0, x -> x.why(2, 6),
            x -> x.cheat(0, 0, 0, 1) ? 1 : 0, x -> x.soon(0, 0, 1), x -> x.hidden(0, 0, 0),
            x -> x.places(1 << 30), x -> x.pebbles(1 << 30), x -> x.fewest(1 << 30), x -> x.tell(1 << 30, 1),
            x -> x.word(1 << 30, 1), x -> x.stranger(1 << 30, 1, 9, 9), x -> x.field(0, 0, 1), x -> x.share(6, 4, 0),
            x -> x.even(6, 4), x -> x.envy(6, 4, 4095), x -> x.mind(-2L, 30, 0), x -> x.mark(0, 0, true) ? 1 : 0,
            x -> x.agree(6, 6), x -> x.kept(0, 0, 0, 2, 9), x -> x.rate(0, 1, 1, 2), x -> x.trade(6, 1),
            x -> x.whole(1000000000, 255), x -> x.knows(9, 8), x -> x.woman(1000000000, 2), x -> x.restore(),
            x -> x.image(), x -> x.status(0), x -> x.count(0)};
        ThreadMXBean thread = (ThreadMXBean) ManagementFactory.getThreadMXBean();
        for (int i = 0; i < calls.length; i++) {
            NothingAboveThree x = full();
            Call call = calls[i];
            int sum = call.of(x);
            long before = thread.getCurrentThreadAllocatedBytes();
            for (int k = 0; k < CALLS; k++) {
                sum += call.of(x);
            }
            long made = thread.getCurrentThreadAllocatedBytes() - before;
            int answers = sum;
            Check.due(true, "call " + i + " makes " + made + " bytes; its answers: " + answers, () -> made < SLACK);
        }
    }
}

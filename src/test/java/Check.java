import java.util.function.Supplier;

/** What the tests share: texts fed to an object, and answers held against the ones that are due. */
final class Check {
    static final String INDEX = "IndexOutOfBoundsException";
    static final String ELEMENT = "NoSuchElementException";
    static final String ARGUMENT = "IllegalArgumentException";
    static final String STATE = "IllegalStateException";

    private static final int CALLS = 512;

    private static NothingAboveThree asked = new NothingAboveThree();
    private static int calls = 0;
    private static int wrong = 0;
    private static int seen = 0;

    private Check() {
    }

    /** What a call answers, or the exact name of what it throws. */
    static String answer(Supplier<?> call) {
        try {
            return String.valueOf(call.get());
        } catch (RuntimeException e) {
            return e.getClass().getSimpleName();
        }
    }

    static void due(Object want, String what, Supplier<?> call) {
        String got = answer(call);
        seen++;
        if (!got.equals(String.valueOf(want))) {
            wrong++;
            if (wrong <= 50) {
                System.out.println(what + " answered " + got + ", due is " + want);
            }
        }
    }

    static void feed(NothingAboveThree x, String text) {
        int[] five = new int[5];
        for (int from = 0; from < text.length(); from += 20) {
            for (int i = 0; i < 5; i++) {
                five[i] = 0;
                for (int k = 0; k < 4; k++) {
                    int at = from + 4 * i + k;
                    five[i] = five[i] << 8 | (at < text.length() ? text.charAt(at) & 255 : 0);
                }
            }
            x.feed(five[0], five[1], five[2], five[3], five[4]);
        }
    }

    static int valley(NothingAboveThree x, String text) {
        feed(x, text);
        return x.valley(text.length());
    }

    static int way(NothingAboveThree x, String text) {
        feed(x, text);
        return x.way(text.length());
    }

    static int task(NothingAboveThree x, String text) {
        feed(x, text);
        return x.task(text.length());
    }

    static NothingAboveThree in(String valley) {
        NothingAboveThree x = new NothingAboveThree();
        valley(x, valley);
        return x;
    }

    /** An object for one call more: a new one, when the last one has had all calls for which one may be used. */
    static NothingAboveThree fresh() {
        if (calls == CALLS) {
            asked = new NothingAboveThree();
            calls = 0;
        }
        calls++;
        return asked;
    }

    /** The last line of a main method. */
    static void end() {
        System.out.println(seen + " answers, " + wrong + " wrong");
        if (wrong != 0 || seen == 0) {
            System.exit(1);
        }
    }
}

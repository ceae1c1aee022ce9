import java.util.ArrayList;
import java.util.HashSet;
import java.util.List;
import java.util.Random;
import java.util.Set;

/** Promises 27 to 32, 37 and 43 to 45: numbers, words, states of mind, the old woman. */
public final class NumberTest {
    private static final int BILLION = 1000000000;

    public static void main(String[] args) {
        digits();
        told();
        minds();
        wholes();
        greatWholes();
        womanly();
        womanRefused();
        Check.end();
    }

    private static void digits() {
        int most = 0;
        for (int n = 0; n <= 5000; n++) {
            String digits = Integer.toString(n, 4);
            int sum = digits.chars().map(c -> c - '0').sum();
            most = Math.max(most, sum);
            int number = n;
            int greatest = most;
            Check.due(digits.length(), "places " + n, () -> Check.fresh().places(number));
            Check.due(sum, "pebbles " + n, () -> Check.fresh().pebbles(number));
            Check.due(greatest, "fewest " + n, () -> Check.fresh().fewest(number));
        }
        Check.due(16, "places", () -> Check.fresh().places(Integer.MAX_VALUE));
        Check.due(15, "places", () -> Check.fresh().places(1073741823));
        Check.due(16, "places", () -> Check.fresh().places(1073741824));
        Check.due(46, "pebbles", () -> Check.fresh().pebbles(Integer.MAX_VALUE));
        Check.due(46, "fewest", () -> Check.fresh().fewest(Integer.MAX_VALUE));
        Check.due(45, "fewest", () -> Check.fresh().fewest(1073741824));
        Check.due(1, "pebbles", () -> Check.fresh().pebbles(1073741824));
        for (int n : new int[] {-1, Integer.MIN_VALUE}) {
            Check.due(Check.ARGUMENT, "places", () -> Check.fresh().places(n));
            Check.due(Check.ARGUMENT, "pebbles", () -> Check.fresh().pebbles(n));
            Check.due(Check.ARGUMENT, "fewest", () -> Check.fresh().fewest(n));
        }
    }

    private static int telling(int n, int w) {
        return n == 0 ? 0 : Integer.toString(n, w + 1).length();
    }

    private static void told() {
        List<Integer> numbers = new ArrayList<>();
        for (int n = 0; n <= 300; n++) {
            numbers.add(n);
        }
        for (int n : new int[] {999999999, BILLION, 1073741823, 1073741824, Integer.MAX_VALUE}) {
            numbers.add(n);
        }
        for (int n : numbers) {
            for (int w = 1; w <= 9; w++) {
                int by = w;
                int want = telling(n, w);
                int less = want - telling(n, w + 1);
                Check.due(want, "tell " + n + " " + w, () -> Check.fresh().tell(n, by));
                Check.due(less, "word " + n + " " + w, () -> Check.fresh().word(n, by));
                Check.due(7 * want - 7 * 3, "stranger " + n, () -> Check.fresh().stranger(n, by, 7, 3));
            }
        }
        Check.due(99 * 31, "stranger", () -> Check.fresh().stranger(Integer.MAX_VALUE, 1, 99, 0));
        Check.due(-99 * 99, "stranger", () -> Check.fresh().stranger(0, 1, 99, 99));
        Check.due(0, "stranger", () -> Check.fresh().stranger(5, 1, 0, 99));
        int[][] wrong = {{-1, 1}, {5, 0}, {5, 10}, {5, -1}};
        for (int[] w : wrong) {
            Check.due(Check.ARGUMENT, "tell", () -> Check.fresh().tell(w[0], w[1]));
            Check.due(Check.ARGUMENT, "word", () -> Check.fresh().word(w[0], w[1]));
            Check.due(Check.ARGUMENT, "stranger", () -> Check.fresh().stranger(w[0], w[1], 1, 1));
        }
        Check.due(Check.ARGUMENT, "k", () -> Check.fresh().stranger(5, 1, 100, 1));
        Check.due(Check.ARGUMENT, "k", () -> Check.fresh().stranger(5, 1, -1, 1));
        Check.due(Check.ARGUMENT, "c", () -> Check.fresh().stranger(5, 1, 1, 100));
        Check.due(Check.ARGUMENT, "c", () -> Check.fresh().stranger(5, 1, 1, -1));
    }

    private static void mind(String row, int few, int t) {
        NothingAboveThree x = new NothingAboveThree();
        long words = 0;
        for (int i = row.length() - 1; i >= 0; i--) {
            words = words << 2 | row.charAt(i) - '0';
        }
        long all = words;
        int many = row.length();
        Check.due(few, "few of " + row, () -> x.mind(all, many, 0));
        Check.due(t, "t of " + row, () -> x.mind(all, many, 1));
        Check.due(few - t, "l of " + row, () -> x.mind(all, many, 2));
        if (many < 30) {
            long more = all | -1L << 2 * many;
            Check.due(few, "words behind do not count", () -> x.mind(more, many, 0));
        }
    }

    private static void minds() {
        mind("0", 1, 0);
        mind("00000", 1, 0);
        mind("01", 2, 0);
        mind("0101010", 2, 0);
        mind("30101010", 3, 1);
        mind("0001", 4, 0);
        mind("1000", 2, 1);
        mind("11111111111111111111111111111", 1, 0);
        mind("333333333333333333333333333333", 1, 0);
        mind("123012301230123012301230123012", 4, 0);
        mind("000000000000000000000000000003", 30, 0);
        mind("300000000000000000000000000000", 2, 1);
        mind("01201", 3, 0);
        mind("0110", 3, 0);
        Random random = new Random(7);
        for (int i = 0; i < 300; i++) {
            StringBuilder row = new StringBuilder();
            int length = 1 + random.nextInt(12);
            for (int k = 0; k < length; k++) {
                row.append((char) ('0' + random.nextInt(2)));
            }
            byMachine(row.toString());
        }
        NothingAboveThree x = new NothingAboveThree();
        Check.due(Check.ARGUMENT, "many 0", () -> x.mind(0, 0, 0));
        Check.due(Check.ARGUMENT, "many 31", () -> x.mind(0, 31, 0));
        Check.due(Check.ARGUMENT, "what 3", () -> x.mind(0, 1, 3));
        Check.due(Check.ARGUMENT, "what -1", () -> x.mind(0, 1, -1));
    }

    /** As a mind of t and l states would say it: its first words, then the loop for ever. */
    private static void byMachine(String row) {
        for (int few = 1; ; few++) {
            for (int t = 0; t < few; t++) {
                StringBuilder said = new StringBuilder(row.substring(0, Math.min(few, row.length())));
                while (said.length() < row.length()) {
                    said.append(said.charAt(said.length() - (few - t)));
                }
                if (said.toString().equals(row)) {
                    mind(row, few, t);
                    return;
                }
            }
        }
    }

    private static void wholes() {
        for (int word = 1; word <= 255; word++) {
            String banned = Integer.toString(word, 4);
            int count = 0;
            for (int n = 0; n <= 1100; n++) {
                count += Integer.toString(n, 4).contains(banned) ? 0 : 1;
                int number = n;
                int by = word;
                int want = count;
                Check.due(want, "whole " + n + " " + word, () -> Check.fresh().whole(number, by));
            }
        }
        Check.due(Check.ARGUMENT, "n", () -> Check.fresh().whole(-1, 1));
        Check.due(Check.ARGUMENT, "n", () -> Check.fresh().whole(BILLION + 1, 1));
        Check.due(Check.ARGUMENT, "word", () -> Check.fresh().whole(1, 0));
        Check.due(Check.ARGUMENT, "word", () -> Check.fresh().whole(1, 256));
        Check.due(Check.ARGUMENT, "word", () -> Check.fresh().whole(1, -1));
    }

    /** Up to 4 to the power of d, less one: by counting rows of d digits without the word. */
    private static void greatWholes() {
        // no digit 1: three choices for each of 14 digits
        Check.due(4782969, "without 1", () -> Check.fresh().whole(268435455, 1));
        Check.due(4782969, "without 3", () -> Check.fresh().whole(268435455, 3));
        // the rows without 11: r(d) = 3 (r(d - 1) + r(d - 2))
        long before = 1;
        long rows = 4;
        for (int d = 2; d <= 14; d++) {
            long next = 3 * (rows + before);
            before = rows;
            rows = next;
            int n = (1 << 2 * d) - 1;
            long want = rows;
            Check.due(want, "without 11 to " + n, () -> Check.fresh().whole(n, 5));
        }
        // the rows without 10: r(d) = 4 r(d - 1) - r(d - 2)
        before = 1;
        rows = 4;
        for (int d = 2; d <= 14; d++) {
            long next = 4 * rows - before;
            before = rows;
            rows = next;
            int n = (1 << 2 * d) - 1;
            long want = rows;
            Check.due(want, "without 10 to " + n, () -> Check.fresh().whole(n, 4));
        }
        for (int word : new int[] {1, 4, 27, 64, 170, 255}) {
            String banned = Integer.toString(word, 4);
            int from = BILLION - 3000;
            for (int n = BILLION; n > from; n -= 7) {
                int above = n;
                int step = 0;
                for (int k = n - 6; k <= n; k++) {
                    step += Integer.toString(k, 4).contains(banned) ? 0 : 1;
                }
                int want = step;
                Check.due(want, "whole of seven to " + n, () -> Check.fresh().whole(above, word) - Check.fresh().whole(above - 7, word));
            }
        }
    }

    private static void womanly() {
        Random random = new Random(11);
        for (int round = 0; round < 60; round++) {
            NothingAboveThree x = new NothingAboveThree();
            int[] rest = new int[10];
            int secret = random.nextInt(3000);
            for (int by = 2; by <= 9; by++) {
                rest[by] = -1;
                if (random.nextInt(3) == 0) {
                    int left = random.nextInt(8) == 0 ? random.nextInt(by) : secret % by;
                    int which = by;
                    rest[by] = left;
                    Check.due(-1, "knows " + by, () -> x.knows(which, left));
                }
            }
            for (int k = 0; k < 12; k++) {
                int n = k == 0 ? secret : k == 1 ? 0 : k == 2 ? 10000 : random.nextInt(6000);
                List<Integer> all = leaving(rest, n);
                Check.due(all.isEmpty() ? -1 : all.get(0), "least to " + n, () -> x.woman(n, 0));
                Check.due(all.size(), "how many to " + n, () -> x.woman(n, 1));
                Check.due(all.isEmpty() ? -1 : all.get(all.size() - 1), "greatest to " + n, () -> x.woman(n, 2));
            }
        }
        NothingAboveThree x = new NothingAboveThree();
        Check.due(0, "knowing nothing", () -> x.woman(BILLION, 0));
        Check.due(BILLION + 1, "knowing nothing", () -> x.woman(BILLION, 1));
        Check.due(BILLION, "knowing nothing", () -> x.woman(BILLION, 2));
        for (int by = 2; by <= 9; by++) {
            x.knows(by, by - 1);
        }
        Check.due(2519, "one less than all", () -> x.woman(BILLION, 0));
        Check.due(396825, "how many", () -> x.woman(BILLION, 1));
        Check.due(999998999, "the greatest", () -> x.woman(BILLION, 2));
        Check.due(-1, "none", () -> x.woman(2518, 0));
        Check.due(0, "none", () -> x.woman(2518, 1));
        Check.due(-1, "none", () -> x.woman(2518, 2));
        Check.due(1, "just one", () -> x.woman(2519, 1));
    }

    private static List<Integer> leaving(int[] rest, int n) {
        List<Integer> all = new ArrayList<>();
        for (int v = 0; v <= n; v++) {
            Set<Integer> wrong = new HashSet<>();
            for (int by = 2; by <= 9; by++) {
                if (rest[by] >= 0 && v % by != rest[by]) {
                    wrong.add(by);
                }
            }
            if (wrong.isEmpty()) {
                all.add(v);
            }
        }
        return all;
    }

    private static void womanRefused() {
        NothingAboveThree x = new NothingAboveThree();
        Check.due(-1, "knows", () -> x.knows(9, 8));
        Check.due(8, "knows", () -> x.knows(9, 0));
        Check.due(0, "knows", () -> x.knows(9, -1));
        Check.due(-1, "knows", () -> x.knows(9, -1));
        Check.due(Check.ARGUMENT, "by 1", () -> x.knows(1, 0));
        Check.due(Check.ARGUMENT, "by 10", () -> x.knows(10, 0));
        Check.due(Check.ARGUMENT, "rest", () -> x.knows(9, 9));
        Check.due(Check.ARGUMENT, "rest", () -> x.knows(2, 2));
        Check.due(Check.ARGUMENT, "rest", () -> x.knows(2, -2));
        Check.due(Check.ARGUMENT, "n", () -> x.woman(-1, 0));
        Check.due(Check.ARGUMENT, "n", () -> x.woman(BILLION + 1, 0));
        Check.due(Check.ARGUMENT, "what", () -> x.woman(1, 3));
        Check.due(Check.ARGUMENT, "what", () -> x.woman(1, -1));
    }
}

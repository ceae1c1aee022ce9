import java.util.ArrayList;
import java.util.List;
import java.util.Random;

/** Promises 33 to 36, 38, 39, 41 and 42: fields, the table, goods. */
public final class TableTest {
    public static void main(String[] args) {
        fields();
        shared();
        sharedByChance();
        sharesRefused();
        marked();
        agreed();
        agreedByChance();
        rated();
        traded();
        tradedByChance();
        Check.end();
    }

    private static void fields() {
        NothingAboveThree x = new NothingAboveThree();
        Check.due(0, "field", () -> x.field(5, 3, 99));
        Check.due(99, "field", () -> x.field(5, 3, 0));
        Check.due(0, "field", () -> x.field(5, 3, 0));
        Check.due(0, "field", () -> x.field(3, 2, 7));
        Check.due(0, "another one", () -> x.field(2, 3, 0));
        Check.due(7, "field", () -> x.field(3, 2, 7));
        int[][] wrong = {{6, 0, 0}, {-1, 0, 0}, {0, 4, 0}, {0, -1, 0}, {0, 0, 100}, {0, 0, -1}};
        for (int[] w : wrong) {
            Check.due(Check.ARGUMENT, "field", () -> x.field(w[0], w[1], w[2]));
        }
    }

    private static void shared() {
        NothingAboveThree x = new NothingAboveThree();
        Check.due(0, "all worth nothing: the first", () -> x.share(6, 4, 0));
        Check.due(0, "worth", () -> x.share(6, 4, 1));
        Check.due(4096, "all are without envy", () -> x.share(6, 4, 2));
        Check.due(1, "one brother has one way", () -> x.share(6, 1, 2));
        Check.due(0, "even", () -> x.even(6, 4));
        x.field(0, 0, 10);
        x.field(0, 1, 10);
        Check.due(-1, "one field, two want it", () -> x.share(1, 2, 0));
        Check.due(-1, "worth", () -> x.share(1, 2, 1));
        Check.due(0, "none", () -> x.share(1, 2, 2));
        Check.due(10, "even", () -> x.even(1, 2));
        Check.due(0, "of one brother", () -> x.share(1, 1, 0));
        Check.due(10, "of one brother", () -> x.share(1, 1, 1));
        Check.due(0, "even of one", () -> x.even(1, 1));
        Check.due(1, "brother 1 envies", () -> x.envy(1, 2, 0));
        Check.due(0, "brother 0 envies", () -> x.envy(1, 2, 1));
        Check.due(0, "the first that envies", () -> x.envy(1, 4, 3));
        Check.due(-1, "one alone envies nobody", () -> x.envy(1, 1, 0));
        x.field(1, 0, 10);
        x.field(1, 1, 10);
        Check.due(1, "alike: the first of two", () -> x.share(2, 2, 0));
        Check.due(20, "worth", () -> x.share(2, 2, 1));
        Check.due(2, "both", () -> x.share(2, 2, 2));
        Check.due(-1, "as much is no envy", () -> x.envy(2, 2, 1));
        Check.due(0, "even", () -> x.even(2, 2));
    }

    private static void sharedByChance() {
        Random random = new Random(3);
        for (int round = 0; round < 80; round++) {
            int top = round % 2 == 0 ? 4 : 100;
            int[][] worth = new int[4][6];
            for (int f = 0; f < 6; f++) {
                for (int b = 0; b < 4; b++) {
                    worth[b][f] = random.nextInt(top);
                }
            }
            int fields = 1 + random.nextInt(6);
            int brothers = 1 + random.nextInt(4);
            againstAll(worth, fields, brothers);
        }
    }

    private static NothingAboveThree withWorth(int[][] worth) {
        NothingAboveThree x = new NothingAboveThree();
        for (int f = 0; f < 6; f++) {
            for (int b = 0; b < 4; b++) {
                x.field(f, b, worth[b][f]);
            }
        }
        return x;
    }

    private static void againstAll(int[][] worth, int fields, int brothers) {
        // of the 512 calls of each the first 24 tell what the FIELDS are worth
        NothingAboveThree[] turns = new NothingAboveThree[11];
        for (int i = 0; i < turns.length; i++) {
            turns[i] = withWorth(worth);
        }
        int best = -1;
        int bestWorth = -1;
        int fair = 0;
        int even = Integer.MAX_VALUE;
        for (int s = 0; s < Math.pow(4, fields); s++) {
            StringBuilder digits = new StringBuilder(Integer.toString(s, 4));
            while (digits.length() < fields) {
                digits.insert(0, '0');
            }
            int sharing = s;
            NothingAboveThree x = turns[s / 400];
            if (digits.chars().anyMatch(c -> c - '0' >= brothers)) {
                Check.due(Check.ARGUMENT, "no such brother in " + s, () -> x.envy(fields, brothers, sharing));
                continue;
            }
            int[] own = new int[brothers];
            int envious = -1;
            for (int b = brothers - 1; b >= 0; b--) {
                int[] thinks = new int[brothers];
                for (int f = 0; f < fields; f++) {
                    thinks[digits.charAt(f) - '0'] += worth[b][f];
                }
                own[b] = thinks[b];
                for (int t : thinks) {
                    envious = t > thinks[b] ? b : envious;
                }
            }
            int sum = 0;
            int least = own[0];
            int greatest = own[0];
            for (int o : own) {
                sum += o;
                least = Math.min(least, o);
                greatest = Math.max(greatest, o);
            }
            even = Math.min(even, greatest - least);
            if (envious == -1) {
                fair++;
                if (sum > bestWorth) {
                    best = s;
                    bestWorth = sum;
                }
            }
            int whose = envious;
            if (s % 7 == 0) {
                Check.due(whose, "envy in " + s, () -> x.envy(fields, brothers, sharing));
            }
        }
        int[] want = {best, bestWorth, fair, even};
        NothingAboveThree x = turns[0];
        Check.due(want[0], "share", () -> x.share(fields, brothers, 0));
        Check.due(want[1], "worth", () -> x.share(fields, brothers, 1));
        Check.due(want[2], "how many", () -> x.share(fields, brothers, 2));
        Check.due(want[3], "even", () -> x.even(fields, brothers));
    }

    private static void sharesRefused() {
        NothingAboveThree x = new NothingAboveThree();
        int[][] wrong = {{0, 1}, {7, 1}, {-1, 1}, {1, 0}, {1, 5}, {1, -1}};
        for (int[] w : wrong) {
            Check.due(Check.ARGUMENT, "share", () -> x.share(w[0], w[1], 0));
            Check.due(Check.ARGUMENT, "even", () -> x.even(w[0], w[1]));
            Check.due(Check.ARGUMENT, "envy", () -> x.envy(w[0], w[1], 0));
        }
        Check.due(Check.ARGUMENT, "what", () -> x.share(1, 1, 3));
        Check.due(Check.ARGUMENT, "what", () -> x.share(1, 1, -1));
        Check.due(Check.ARGUMENT, "more than f", () -> x.envy(2, 4, 16));
        Check.due(-1, "the last", () -> x.envy(2, 4, 15));
        Check.due(Check.ARGUMENT, "below 0", () -> x.envy(2, 4, -1));
        Check.due(Check.ARGUMENT, "no such brother", () -> x.envy(2, 3, 3));
        Check.due(Check.ARGUMENT, "no such brother", () -> x.envy(2, 3, 12));
        Check.due(-1, "the last of all", () -> x.envy(6, 4, 4095));
        Check.due(Check.ARGUMENT, "more than all", () -> x.envy(6, 4, 4096));
        Check.due(Check.ARGUMENT, "more than all", () -> x.envy(6, 4, Integer.MAX_VALUE));
    }

    private static void marked() {
        NothingAboveThree x = new NothingAboveThree();
        Check.due(false, "mark", () -> x.mark(5, 4, true));
        Check.due(true, "mark", () -> x.mark(5, 4, true));
        Check.due(false, "another one", () -> x.mark(4, 5, false));
        Check.due(true, "mark", () -> x.mark(5, 4, false));
        Check.due(false, "mark", () -> x.mark(5, 4, false));
        int[][] wrong = {{6, 0}, {-1, 0}, {0, 6}, {0, -1}};
        for (int[] w : wrong) {
            Check.due(Check.ARGUMENT, "mark", () -> x.mark(w[0], w[1], true));
        }
    }

    private static NothingAboveThree table(String... rows) {
        NothingAboveThree x = new NothingAboveThree();
        for (int r = 0; r < rows.length; r++) {
            for (int c = 0; c < rows[r].length(); c++) {
                x.mark(r, c, rows[r].charAt(c) == '1');
            }
        }
        return x;
    }

    private static void agreed() {
        NothingAboveThree none = new NothingAboveThree();
        Check.due(0, "all alike", () -> none.agree(6, 6));
        NothingAboveThree all = table("111111", "111111", "111111", "111111", "111111", "111111");
        Check.due(0, "all alike", () -> all.agree(6, 6));
        NothingAboveThree rows = table("000000", "111111", "000000", "111111", "000000", "111111");
        Check.due(1, "the row alone tells", () -> rows.agree(6, 6));
        NothingAboveThree columns = table("001101", "001101", "001101", "001101", "001101", "001101");
        Check.due(1, "the column alone tells", () -> columns.agree(6, 6));
        Check.due(0, "two of them", () -> columns.agree(6, 2));
        NothingAboveThree same = table("100000", "010000", "001000", "000100", "000010", "000001");
        Check.due(0, "one of one", () -> same.agree(1, 1));
        Check.due(2, "two of two", () -> same.agree(2, 2));
        Check.due(3, "four of four", () -> same.agree(4, 4));
        Check.due(1, "one row", () -> same.agree(1, 6));
        int[][] wrong = {{0, 1}, {7, 1}, {1, 0}, {1, 7}, {-1, 1}, {1, -1}};
        for (int[] w : wrong) {
            Check.due(Check.ARGUMENT, "agree", () -> same.agree(w[0], w[1]));
        }
    }

    private static void agreedByChance() {
        Random random = new Random(5);
        for (int round = 0; round < 60; round++) {
            boolean[][] marks = new boolean[6][6];
            NothingAboveThree x = new NothingAboveThree();
            for (int r = 0; r < 6; r++) {
                for (int c = 0; c < 6; c++) {
                    marks[r][c] = random.nextInt(3) == 0;
                    x.mark(r, c, marks[r][c]);
                }
            }
            int rows = 1 + random.nextInt(4);
            int columns = 1 + random.nextInt(4);
            List<Integer> someRows = new ArrayList<>();
            List<Integer> someColumns = new ArrayList<>();
            for (int r = 0; r < rows; r++) {
                someRows.add(r);
            }
            for (int c = 0; c < columns; c++) {
                someColumns.add(c);
            }
            int want = fewest(marks, someRows, someColumns);
            Check.due(want, "agree " + rows + " " + columns, () -> x.agree(rows, columns));
            Check.due(want, "once more", () -> x.agree(rows, columns));
        }
    }

    private static int fewest(boolean[][] marks, List<Integer> rows, List<Integer> columns) {
        boolean alike = true;
        for (int r : rows) {
            for (int c : columns) {
                alike &= marks[r][c] == marks[rows.get(0)][columns.get(0)];
            }
        }
        if (alike) {
            return 0;
        }
        int least = 99;
        for (int part = 1; part < (1 << rows.size()) - 1; part++) {
            least = Math.min(least, Math.max(fewest(marks, some(rows, part, 1), columns), fewest(marks, some(rows, part, 0), columns)));
        }
        for (int part = 1; part < (1 << columns.size()) - 1; part++) {
            least = Math.min(least, Math.max(fewest(marks, rows, some(columns, part, 1)), fewest(marks, rows, some(columns, part, 0))));
        }
        return 1 + least;
    }

    private static List<Integer> some(List<Integer> all, int part, int bit) {
        List<Integer> some = new ArrayList<>();
        for (int i = 0; i < all.size(); i++) {
            if ((part >> i & 1) == bit) {
                some.add(all.get(i));
            }
        }
        return some;
    }

    private static void rated() {
        NothingAboveThree x = new NothingAboveThree();
        Check.due(0, "rate", () -> x.rate(5, 4, 99, 98));
        Check.due(9998, "rate", () -> x.rate(5, 4, 1, 2));
        Check.due(0, "the other way round", () -> x.rate(4, 5, 3, 4));
        Check.due(102, "rate", () -> x.rate(5, 4, 0, 0));
        Check.due(0, "not at all", () -> x.rate(5, 4, 0, 0));
        Check.due(304, "rate", () -> x.rate(4, 5, 3, 4));
        int[][] wrong = {{6, 0, 1, 1}, {-1, 0, 1, 1}, {0, 6, 1, 1}, {0, -1, 1, 1}, {3, 3, 1, 1}, {3, 3, 0, 0},
            {0, 1, 0, 1}, {0, 1, 1, 0}, {0, 1, 100, 1}, {0, 1, 1, 100}, {0, 1, -1, 1}, {0, 1, 1, -1}};
        for (int[] w : wrong) {
            Check.due(Check.ARGUMENT, "rate", () -> x.rate(w[0], w[1], w[2], w[3]));
        }
        Check.due(304, "unchanged", () -> x.rate(4, 5, 3, 4));
        Check.due(Check.ARGUMENT, "goods 1", () -> x.trade(1, 0));
        Check.due(Check.ARGUMENT, "goods 7", () -> x.trade(7, 0));
        Check.due(Check.ARGUMENT, "what 2", () -> x.trade(2, 2));
        Check.due(Check.ARGUMENT, "what -1", () -> x.trade(2, -1));
    }

    private static void traded() {
        NothingAboveThree x = new NothingAboveThree();
        Check.due(-1, "nothing is traded", () -> x.trade(6, 0));
        Check.due(-1, "nothing is traded", () -> x.trade(6, 1));
        x.rate(4, 5, 1, 99);
        x.rate(5, 4, 1, 99);
        Check.due(-1, "beyond the first 5", () -> x.trade(5, 0));
        Check.due(37, "4 and 5", () -> x.trade(6, 0));
        Check.due(9801000, "9,801 times", () -> x.trade(6, 1));
        x.rate(0, 1, 1, 99);
        x.rate(1, 0, 1, 99);
        Check.due(1, "of alike ones the least digits", () -> x.trade(6, 0));
        x.rate(1, 2, 1, 99);
        x.rate(2, 3, 1, 99);
        x.rate(3, 0, 1, 99);
        Check.due(0123, "four goods", () -> x.trade(6, 0));
        Check.due(1000000000, "no more than a billion", () -> x.trade(6, 1));
        NothingAboveThree y = new NothingAboveThree();
        y.rate(0, 1, 3, 2);
        y.rate(1, 0, 2, 3);
        Check.due(-1, "just 1 is no gain", () -> y.trade(6, 0));
        y.rate(1, 0, 3, 5);
        Check.due(1, "10 for 9", () -> y.trade(6, 0));
        Check.due(1111, "cut", () -> y.trade(6, 1));
        y.rate(1, 2, 9, 10);
        y.rate(2, 0, 2, 3);
        Check.due(1, "of alike ones the fewest goods", () -> y.trade(6, 0));
        y.rate(1, 2, 9, 11);
        Check.due(012, "three goods", () -> y.trade(6, 0));
        Check.due(1222, "cut", () -> y.trade(6, 1));
        Check.due(1, "of the first two", () -> y.trade(2, 0));
        NothingAboveThree five = new NothingAboveThree();
        for (int i = 0; i < 5; i++) {
            five.rate(i, (i + 1) % 5, 1, 2);
        }
        Check.due(-1, "no round of five goods", () -> five.trade(6, 0));
    }

    private static void tradedByChance() {
        Random random = new Random(9);
        for (int round = 0; round < 60; round++) {
            NothingAboveThree x = new NothingAboveThree();
            int[][] a = new int[6][6];
            int[][] b = new int[6][6];
            int top = round % 2 == 0 ? 3 : 99;
            for (int i = 0; i < 36; i++) {
                int one = i / 6;
                int other = i % 6;
                if (one != other && random.nextInt(3) != 0) {
                    a[one][other] = 1 + random.nextInt(top);
                    b[one][other] = 1 + random.nextInt(top);
                    x.rate(one, other, a[one][other], b[one][other]);
                }
            }
            int goods = 2 + random.nextInt(5);
            long[] best = {-1, 1, 1, 0};
            for (int first = 0; first < goods; first++) {
                longer(a, b, goods, new int[] {first}, new long[] {1, 1}, best);
            }
            Check.due(best[0], "trade", () -> x.trade(goods, 0));
            Check.due(best[0] < 0 ? -1 : Math.min(1000000000, 1000 * best[1] / best[2]), "gain", () -> x.trade(goods, 1));
        }
    }

    /** Best: digits, b, a, how many goods. */
    private static void longer(int[][] a, int[][] b, int goods, int[] so, long[] far, long[] best) {
        int last = so[so.length - 1];
        if (so.length > 1 && a[last][so[0]] != 0) {
            long got = far[0] * b[last][so[0]];
            long given = far[1] * a[last][so[0]];
            int digits = 0;
            for (int g : so) {
                digits = 8 * digits + g;
            }
            long more = got * best[2] - best[1] * given;
            boolean before = best[0] >= 0 && (so.length < best[3] || so.length == best[3] && digits < best[0]);
            if (more > 0 || more == 0 && before) {
                best[0] = digits;
                best[1] = got;
                best[2] = given;
                best[3] = so.length;
            }
        }
        for (int next = 0; next < goods && so.length < 4; next++) {
            boolean known = a[last][next] == 0;
            for (int g : so) {
                known |= g == next;
            }
            if (!known) {
                int[] more = java.util.Arrays.copyOf(so, so.length + 1);
                more[so.length] = next;
                longer(a, b, goods, more, new long[] {far[0] * b[last][next], far[1] * a[last][next]}, best);
            }
        }
    }
}

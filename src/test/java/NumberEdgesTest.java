import java.util.function.Supplier;

/** Promises 27 to 32, 37, 43 to 45: each sentence that names an edge, on both sides of it, and all that is refused. */
public final class NumberEdgesTest {
    private static final int LEAST = Integer.MIN_VALUE;
    private static final int MOST = Integer.MAX_VALUE;
    private static final int BILLION = 1000000000;

    public static void main(String[] args) {
        belowNought();
        places();
        pebbles();
        most();
        wordsRefused();
        telling();
        word();
        stranger();
        mindRefused();
        mind();
        wholeRefused();
        whole();
        knows();
        womanRefused();
        woman();
        Check.end();
    }

    private static void still(Object want, String what, Twins.Call call) {
        Twins.still(want, what, NothingAboveThree::new, call);
    }

    /** "N is below 0 (so below)". */
    private static void belowNought() {
        for (int n : new int[] {-1, -4, LEAST}) {
            Twins.refused(Check.ARGUMENT, "promise 27: n " + n, x -> x.places(n));
            Twins.refused(Check.ARGUMENT, "promise 28: n " + n, x -> x.pebbles(n));
            Twins.refused(Check.ARGUMENT, "promise 29: n " + n, x -> x.fewest(n));
            Twins.refused(Check.ARGUMENT, "promise 30: n " + n, x -> x.tell(n, 1));
            Twins.refused(Check.ARGUMENT, "promise 31: n " + n, x -> x.word(n, 1));
            Twins.refused(Check.ARGUMENT, "promise 32: n " + n, x -> x.stranger(n, 1, 1, 1));
        }
    }

    /** FEWEST PLACES "that have room for it (1 at least)": one more from each power of 4 on. */
    private static void places() {
        still(1, "promise 27: 0", x -> x.places(0));
        for (int many = 1; many <= 15; many++) {
            int power = 1 << 2 * many;
            int so = many;
            still(so, "promise 27: " + (power - 1), x -> x.places(power - 1));
            still(so + 1, "promise 27: " + power, x -> x.places(power));
            still(so + 1, "promise 27: " + (power + 1), x -> x.places(power + 1));
        }
        still(16, "promise 27: the greatest", x -> x.places(MOST));
    }

    /** PEBBLES: "all digits together". */
    private static void pebbles() {
        still(0, "promise 28: 0", x -> x.pebbles(0));
        for (int many = 1; many <= 15; many++) {
            int power = 1 << 2 * many;
            int so = many;
            still(3 * so, "promise 28: " + (power - 1), x -> x.pebbles(power - 1));
            still(1, "promise 28: " + power, x -> x.pebbles(power));
            still(2, "promise 28: " + (power + 1), x -> x.pebbles(power + 1));
        }
        still(46, "promise 28: the greatest", x -> x.pebbles(MOST));
        still(16, "promise 28: sixteen ones", x -> x.pebbles(0x55555555));
    }

    /** MOST: "the greatest PEBBLES of all from 0 to n", n among them. */
    private static void most() {
        int[] want = {0, 1, 2, 3, 3, 3, 3, 4, 4, 4, 4, 5, 5, 5, 5, 6, 6, 6, 6, 6, 6, 6, 6, 6, 6, 6, 6, 6, 6, 6, 6, 7, 7};
        for (int i = 0; i < want.length; i++) {
            int n = i;
            still(want[i], "promise 29: " + i, x -> x.fewest(n));
        }
        for (int many = 1; many <= 15; many++) {
            int power = 1 << 2 * many;
            int so = many;
            still(3 * so - 1, "promise 29: " + (power - 2), x -> x.fewest(power - 2));
            still(3 * so, "promise 29: " + (power - 1), x -> x.fewest(power - 1));
            still(3 * so, "promise 29: " + power, x -> x.fewest(power));
            if (many < 15) {
                still(3 * so, "promise 29: " + (2 * power - 2), x -> x.fewest(2 * power - 2));
                still(3 * so + 1, "promise 29: " + (2 * power - 1), x -> x.fewest(2 * power - 1));
            }
        }
        still(45, "promise 29: the greatest but one", x -> x.fewest(MOST - 1));
        still(46, "promise 29: the greatest", x -> x.fewest(MOST));
    }

    /** "W is 1 to 9"; "also k, c (0 to 99)". */
    private static void wordsRefused() {
        for (int w : new int[] {-1, 0, 10, LEAST, MOST}) {
            Twins.refused(Check.ARGUMENT, "promise 30: w " + w, x -> x.tell(5, w));
            Twins.refused(Check.ARGUMENT, "promise 31: w " + w, x -> x.word(5, w));
            Twins.refused(Check.ARGUMENT, "promise 32: w " + w, x -> x.stranger(5, w, 1, 1));
        }
        for (int wrong : new int[] {-1, 100, LEAST, MOST}) {
            Twins.refused(Check.ARGUMENT, "promise 32: k " + wrong, x -> x.stranger(5, 1, wrong, 1));
            Twins.refused(Check.ARGUMENT, "promise 32: c " + wrong, x -> x.stranger(5, 1, 1, wrong));
        }
    }

    /** TELLING: one word more from each power of w and one on; "(0, if n is 0)". */
    private static void telling() {
        for (int w = 1; w <= 9; w++) {
            int by = w;
            still(0, "promise 30: 0 by " + w, x -> x.tell(0, by));
            still(1, "promise 30: 1 by " + w, x -> x.tell(1, by));
            long power = w + 1;
            for (int words = 1; power <= MOST; words++) {
                int n = (int) power;
                int so = words;
                still(so, "promise 30: " + (n - 1) + " by " + w, x -> x.tell(n - 1, by));
                still(so + 1, "promise 30: " + n + " by " + w, x -> x.tell(n, by));
                power *= w + 1;
            }
        }
        int[] greatest = {31, 20, 16, 14, 12, 12, 11, 10, 10};
        for (int w = 1; w <= 9; w++) {
            int by = w;
            still(greatest[w - 1], "promise 30: the greatest by " + w, x -> x.tell(MOST, by));
        }
    }

    /** WORD: "by how much fewer, if w is one more", of 9, too. */
    private static void word() {
        still(0, "promise 31: 0", x -> x.word(0, 1));
        still(0, "promise 31: 1", x -> x.word(1, 1));
        still(1, "promise 31: 2", x -> x.word(2, 1));
        still(11, "promise 31: the greatest by 1", x -> x.word(MOST, 1));
        still(0, "promise 31: the greatest by 8", x -> x.word(MOST, 8));
        still(0, "promise 31: 9 by 9", x -> x.word(9, 9));
        still(1, "promise 31: 10 by 9", x -> x.word(10, 9));
        still(0, "promise 31: 11 by 9", x -> x.word(11, 9));
        still(0, "promise 31: 0 by 9", x -> x.word(0, 9));
    }

    /** A STRANGER: "k times TELLING less k times c". */
    private static void stranger() {
        still(0, "promise 32: k 0", x -> x.stranger(MOST, 1, 0, 99));
        still(31 * 99, "promise 32: k 99, c 0", x -> x.stranger(MOST, 1, 99, 0));
        still(99 * (31 - 99), "promise 32: k 99, c 99", x -> x.stranger(MOST, 1, 99, 99));
        still(-99 * 99, "promise 32: n 0", x -> x.stranger(0, 9, 99, 99));
        still(0, "promise 32: as much", x -> x.stranger(3, 1, 5, 2));
        still(10 - 99, "promise 32: w 9, k 1, c 99", x -> x.stranger(MOST, 9, 1, 99));
    }

    /** Promise 37: "how many (1 to 30), what". */
    private static void mindRefused() {
        for (int many : new int[] {-1, 0, 31, 32, LEAST, MOST}) {
            Twins.refused(Check.ARGUMENT, "promise 37: so many " + many, x -> x.mind(1, many, 0));
        }
        for (int what : new int[] {-1, 3, LEAST, MOST}) {
            Twins.refused(Check.ARGUMENT, "promise 37: what " + what, x -> x.mind(1, 1, what));
        }
    }

    private static void mind(long words, int many, int t, int l) {
        still(t + l, "promise 37: FEW of " + words + " by " + many, x -> x.mind(words, many, 0));
        still(t, "promise 37: t of " + words + " by " + many, x -> x.mind(words, many, 1));
        still(l, "promise 37: l of " + words + " by " + many, x -> x.mind(words, many, 2));
    }

    /** MIND: 1 to 30 words, t 0 or more, l 1 or more; "of these the least t". */
    private static void mind() {
        for (int many = 1; many <= 30; many++) {
            long last = 1L << 2 * (many - 1);
            mind(0, many, 0, 1);
            mind(-1L, many, 0, 1);
            mind(Long.MIN_VALUE, many, 0, 1);
            // the last word alone is another one, or the first alone
            mind(last, many, 0, many);
            mind(1, many, many < 3 ? 0 : 1, many == 2 ? 2 : 1);
            // what stands behind the last does not count
            mind(-1L << 2 * many, many, 0, 1);
            mind(last | -1L << 2 * many, many, 0, many);
        }
    }

    /** Promise 43: "n is not 0 to 1,000,000,000, or the word" (1 to 255). */
    private static void wholeRefused() {
        for (int n : new int[] {-1, BILLION + 1, LEAST, MOST}) {
            Twins.refused(Check.ARGUMENT, "promise 43: n " + n, x -> x.whole(n, 1));
        }
        for (int word : new int[] {-1, 0, 256, LEAST, MOST}) {
            Twins.refused(Check.ARGUMENT, "promise 43: word " + word, x -> x.whole(1, word));
        }
    }

    /** WHOLE: "(0 as one digit, no other one begins with 0)"; n itself counts. */
    private static void whole() {
        for (int word : new int[] {1, 3, 4, 15, 16, 63, 64, 255}) {
            still(1, "promise 43: 0 without " + word, x -> x.whole(0, word));
            still(word, "promise 43: the number ahead of " + word, x -> x.whole(word - 1, word));
            still(word, "promise 43: the word itself " + word, x -> x.whole(word, word));
        }
        still(2, "promise 43: 0 and 2 without 1", x -> x.whole(2, 1));
        still(4, "promise 43: 0 is no digit ahead", x -> x.whole(4, 4));
        still(5, "promise 43: 0 is no digit ahead", x -> x.whole(5, 4));
        // counted by another way; the greatest n is 323212230220000 to the base 4
        int[][] greatest = {{1, 12459339}, {3, 14348907}, {4, 376063243}, {15, 501183577}, {16, 807783874},
            {63, 863592031}, {64, 953052062}, {255, 967765669}};
        for (int[] g : greatest) {
            still(g[1], "promise 43: the greatest n without " + g[0], x -> x.whole(BILLION, g[0]));
            still(g[0] > 3 ? g[1] - 1 : g[1], "promise 43: one less", x -> x.whole(BILLION - 1, g[0]));
        }
    }

    /** Promise 44: "by so many (2 to 9); NONE: no more: what she knew", what it leaves from 0 to one less. */
    private static void knows() {
        for (int by = 2; by <= 9; by++) {
            int so = by;
            Twins.taken(by == 5 ? 3 : by == 9 ? 8 : -1, "promise 44: what she knew by " + by, x -> x.knows(so, 0));
            Twins.taken("0 " + (by - 1), "promise 44: the least and the greatest by " + by, x -> {
                x.knows(so, 0);
                return x.knows(so, so - 1) + " " + x.knows(so, -1);
            });
            Twins.taken(-1, "promise 44: NONE, no more by " + by, x -> {
                x.knows(so, so - 1);
                x.knows(so, -1);
                return x.knows(so, 0);
            });
            for (int rest : new int[] {-2, by, LEAST, MOST}) {
                Twins.refused(Check.ARGUMENT, "promise 44: what it leaves by " + by + ": " + rest, x -> x.knows(so, rest));
            }
        }
        for (int by : new int[] {-1, 0, 1, 10, LEAST, MOST}) {
            Twins.refused(Check.ARGUMENT, "promise 44: by " + by, x -> x.knows(by, 0));
            Twins.refused(Check.ARGUMENT, "promise 44: no more by " + by, x -> x.knows(by, -1));
        }
    }

    /** Promise 45: "n is not 0 to 1,000,000,000, or what". */
    private static void womanRefused() {
        for (int n : new int[] {-1, BILLION + 1, LEAST, MOST}) {
            Twins.refused(Check.ARGUMENT, "promise 45: n " + n, x -> x.woman(n, 0));
        }
        for (int what : new int[] {-1, 3, LEAST, MOST}) {
            Twins.refused(Check.ARGUMENT, "promise 45: what " + what, x -> x.woman(1, what));
        }
    }

    private static void woman(String want, int n, int... known) {
        Supplier<NothingAboveThree> scene = () -> {
            NothingAboveThree x = new NothingAboveThree();
            for (int i = 0; i + 1 < known.length; i += 2) {
                x.knows(known[i], known[i + 1]);
            }
            return x;
        };
        Twins.still(want, "promise 45: to " + n, scene, x -> x.woman(n, 0) + " " + x.woman(n, 1) + " " + x.woman(n, 2));
    }

    /** THE OLD WOMAN: "the least, how many, the greatest"; none: NONE, 0, NONE. */
    private static void woman() {
        woman("0 1 0", 0);
        woman("0 2 1", 1);
        woman("0 1000000001 1000000000", BILLION);
        woman("0 1 0", 0, 2, 0);
        woman("-1 0 -1", 0, 2, 1);
        woman("1 1 1", 1, 2, 1);
        woman("1 1 1", 2, 2, 1);
        woman("1 2 3", 3, 2, 1);
        woman("-1 0 -1", 7, 9, 8);
        woman("8 1 8", 8, 9, 8);
        woman("8 1 8", 16, 9, 8);
        woman("8 2 17", 17, 9, 8);
        woman("-1 0 -1", 2518, 5, 4, 7, 6, 8, 7, 9, 8);
        woman("2519 1 2519", 2519, 5, 4, 7, 6, 8, 7, 9, 8);
        woman("2519 1 2519", 5038, 5, 4, 7, 6, 8, 7, 9, 8);
        woman("2519 2 5039", 5039, 5, 4, 7, 6, 8, 7, 9, 8);
        woman("0 396826 999999000", BILLION, 5, 0, 7, 0, 8, 0, 9, 0);
        // what cannot be true together: even by 2, odd by 4
        woman("-1 0 -1", BILLION, 2, 0, 4, 1);
        woman("-1 0 -1", BILLION, 3, 1, 9, 3);
        woman("0 250000001 1000000000", BILLION, 2, 0, 4, 0, 3, 1, 3, -1);
        woman("1 250000000 999999997", BILLION, 2, 1, 4, 1);
    }
}

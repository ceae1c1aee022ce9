import java.util.function.Supplier;

/** Promises 33 to 36, 38, 39, 41, 42: each sentence that names an edge, on both sides of it, and all that is refused. */
public final class TableEdgesTest {
    private static final int LEAST = Integer.MIN_VALUE;
    private static final int MOST = Integer.MAX_VALUE;

    public static void main(String[] args) {
        field();
        fieldsRefused();
        share();
        even();
        envyRefused();
        envy();
        mark();
        agreeRefused();
        agree();
        rate();
        rateRefused();
        tradeRefused();
        trade();
        tradeAlike();
        tradeGreatest();
        Check.end();
    }

    /** Promise 33: FIELDS 0 to 5, BROTHERS 0 to 3, 0 to 99: "what it was". */
    private static void field() {
        Twins.taken("7 0 99", "promise 33: the first", x -> x.field(0, 0, 0) + " " + x.field(0, 0, 99) + " " + x.field(0, 0, 5));
        Twins.taken("98 99 0", "promise 33: the last", x -> x.field(5, 3, 99) + " " + x.field(5, 3, 0) + " " + x.field(5, 3, 0));
        Twins.still(7, "promise 33: what it is already", x -> x.field(1, 1, 7));
        for (int f : new int[] {-1, 6, LEAST, MOST}) {
            Twins.refused(Check.ARGUMENT, "promise 33: FIELD " + f, x -> x.field(f, 0, 0));
        }
        for (int brother : new int[] {-1, 4, LEAST, MOST}) {
            Twins.refused(Check.ARGUMENT, "promise 33: BROTHER " + brother, x -> x.field(0, brother, 0));
        }
        for (int v : new int[] {-1, 100, LEAST, MOST}) {
            Twins.refused(Check.ARGUMENT, "promise 33: the number " + v, x -> x.field(0, 0, v));
        }
    }

    /** "F (1 to 6), b (1 to 4), what". */
    private static void fieldsRefused() {
        for (int f : new int[] {-1, 0, 7, LEAST, MOST}) {
            Twins.refused(Check.ARGUMENT, "promise 34: f " + f, x -> x.share(f, 1, 0));
            Twins.refused(Check.ARGUMENT, "promise 35: f " + f, x -> x.even(f, 1));
            Twins.refused(Check.ARGUMENT, "promise 36: f " + f, x -> x.envy(f, 1, 0));
        }
        for (int b : new int[] {-1, 0, 5, LEAST, MOST}) {
            Twins.refused(Check.ARGUMENT, "promise 34: b " + b, x -> x.share(1, b, 0));
            Twins.refused(Check.ARGUMENT, "promise 35: b " + b, x -> x.even(1, b));
            Twins.refused(Check.ARGUMENT, "promise 36: b " + b, x -> x.envy(1, b, 0));
        }
        for (int what : new int[] {-1, 3, LEAST, MOST}) {
            Twins.refused(Check.ARGUMENT, "promise 34: what " + what, x -> x.share(1, 1, what));
        }
    }

    /** FIELDS by what they are worth, FIELD by FIELD, to each BROTHER. */
    private static Supplier<NothingAboveThree> worth(int[]... fields) {
        return () -> {
            NothingAboveThree x = new NothingAboveThree();
            for (int f = 0; f < fields.length; f++) {
                for (int b = 0; b < fields[f].length; b++) {
                    x.field(f, b, fields[f][b]);
                }
            }
            return x;
        };
    }

    private static void shared(String want, int fields, int brothers, Supplier<NothingAboveThree> x) {
        Twins.still(want, "promise 34: " + fields + " among " + brothers, x, y -> y.share(fields, brothers, 0) + " "
                + y.share(fields, brothers, 1) + " " + y.share(fields, brothers, 2));
    }

    /** FAIR: "of these the first"; "NONE: none is (2: 0)". */
    private static void share() {
        Supplier<NothingAboveThree> nothing = NothingAboveThree::new;
        for (int f = 1; f <= 6; f++) {
            for (int b = 1; b <= 4; b++) {
                int all = 1;
                for (int i = 0; i < f; i++) {
                    all *= b;
                }
                shared("0 0 " + all, f, b, nothing);
            }
        }
        Supplier<NothingAboveThree> one = worth(new int[] {1, 1, 1, 1});
        shared("0 1 1", 1, 1, one);
        shared("-1 -1 0", 1, 2, one);
        shared("-1 -1 0", 1, 4, one);
        Supplier<NothingAboveThree> two = worth(new int[] {99, 99}, new int[] {99, 99});
        shared("1 198 2", 2, 2, two);
        shared("0 198 1", 2, 1, two);
        shared("-1 -1 0", 2, 3, worth(new int[] {99, 99, 99}, new int[] {99, 99, 99}));
        // as much is no ENVY, by one more there is
        shared("1 10 2", 2, 2, worth(new int[] {5, 5}, new int[] {5, 5}));
        shared("4 11 1", 2, 2, worth(new int[] {5, 6}, new int[] {5, 5}));
        shared("-1 -1 0", 2, 2, worth(new int[] {6, 6}, new int[] {5, 5}));
        // each gets the one FIELD that is worth something to him
        shared("27 36 1", 4, 4, worth(new int[] {9}, new int[] {0, 9}, new int[] {0, 0, 9}, new int[] {0, 0, 0, 9}));
        shared("6 27 2", 3, 3, worth(new int[] {9, 9, 0}, new int[] {9, 9, 0}, new int[] {0, 0, 9}));
        // a later one is worth more than the first without ENVY, 0011, which is worth 5
        shared("65 6 5", 4, 2, worth(new int[] {1, 2}, new int[] {1, 1}, new int[] {1, 1}, new int[] {1, 2}));
        // the last SHARING of all is worth most: all to the last BROTHER, whom alone they are worth something
        shared("4095 594 1504", 6, 4, worth(new int[] {0, 0, 0, 99}, new int[] {0, 0, 0, 99}, new int[] {0, 0, 0, 99},
                new int[] {0, 0, 0, 99}, new int[] {0, 0, 0, 99}, new int[] {0, 0, 0, 99}));
    }

    private static void apart(int want, int fields, int brothers, int[]... worth) {
        Twins.still(want, "promise 35: " + fields + " among " + brothers, worth(worth), x -> x.even(fields, brothers));
    }

    /** EVEN: "by all SHARINGS", those with ENVY, too. */
    private static void even() {
        apart(0, 6, 4);
        apart(0, 1, 1, new int[] {99, 99});
        apart(99, 1, 2, new int[] {99, 99});
        apart(99, 1, 4, new int[] {99, 99, 99, 99});
        apart(0, 1, 2, new int[] {99, 0});
        apart(0, 2, 2, new int[] {10, 0}, new int[] {0, 10});
        apart(1, 2, 2, new int[] {99, 99}, new int[] {98, 98});
        apart(0, 2, 2, new int[] {99, 99}, new int[] {99, 99});
        apart(99, 2, 3, new int[] {99, 99, 99}, new int[] {99, 99, 99});
        apart(0, 3, 2, new int[] {3, 3}, new int[] {2, 2}, new int[] {1, 1});
        int[] alike = {1, 1, 1, 1};
        apart(1, 6, 4, alike, alike, alike, alike, alike, alike);
        apart(0, 4, 4, alike, alike, alike, alike, alike, alike);
        apart(0, 6, 3, alike, alike, alike, alike, alike, alike);
    }

    /** "Also digits of no such BROTHER, or more than f." */
    private static void envyRefused() {
        int fields = 1;
        for (int all = 4; all <= 4096; all *= 4) {
            int f = fields;
            int behind = all;
            Twins.still(-1, "promise 36: the last of " + f, worth(), x -> x.envy(f, 4, behind - 1));
            Twins.still(-1, "promise 36: the first of " + f, worth(), x -> x.envy(f, 4, 0));
            for (int sharing : new int[] {behind, behind + 1, 4 * behind, -1, LEAST, MOST}) {
                Twins.refused(Check.ARGUMENT, "promise 36: " + sharing + " of " + f, x -> x.envy(f, 4, sharing));
            }
            fields++;
        }
        for (int brothers = 1; brothers <= 3; brothers++) {
            int b = brothers;
            for (int digit = 1; digit <= 1024; digit *= 4) {
                int last = (b - 1) * digit;
                Twins.still(-1, "promise 36: the last BROTHER of " + b, worth(), x -> x.envy(6, b, last));
                for (int more = b; more < 4; more++) {
                    int sharing = more * digit;
                    Twins.refused(Check.ARGUMENT, "promise 36: BROTHER " + more + " of " + b, x -> x.envy(6, b, sharing));
                }
            }
        }
    }

    private static void envious(int want, int fields, int brothers, int sharing, int[]... worth) {
        Twins.still(want, "promise 36: " + sharing, worth(worth), x -> x.envy(fields, brothers, sharing));
    }

    /** ENVY: "worth more than his"; "BROTHER by BROTHER the first; NONE: nobody's". */
    private static void envy() {
        envious(-1, 2, 2, 1, new int[] {5, 5}, new int[] {5, 5});
        envious(0, 2, 2, 1, new int[] {5, 5}, new int[] {6, 5});
        envious(1, 2, 2, 1, new int[] {5, 6}, new int[] {5, 5});
        envious(0, 2, 2, 1, new int[] {5, 6}, new int[] {6, 5});
        envious(-1, 2, 2, 4, new int[] {5, 6}, new int[] {6, 5});
        envious(1, 1, 4, 0, new int[] {1, 1, 1, 1});
        envious(0, 1, 4, 1, new int[] {1, 1, 1, 1});
        envious(0, 1, 4, 3, new int[] {1, 1, 1, 1});
        envious(3, 1, 4, 0, new int[] {0, 0, 0, 1});
        envious(-1, 1, 4, 3, new int[] {0, 0, 0, 1});
        envious(-1, 1, 3, 0, new int[] {0, 0, 0, 1});
        envious(-1, 1, 1, 0, new int[] {99, 99, 99, 99});
        // all of another one's together: 2 and 2 against 3
        envious(0, 3, 2, 5, new int[] {3, 0}, new int[] {2, 0}, new int[] {2, 0});
        envious(-1, 3, 2, 5, new int[] {4, 0}, new int[] {2, 0}, new int[] {2, 0});
        // FIELD 0 is the highest digit
        envious(1, 6, 2, 0, new int[] {0, 1});
        envious(-1, 6, 2, 1024, new int[] {0, 1});
        envious(-1, 6, 2, 1, new int[] {0, 0}, new int[2], new int[2], new int[2], new int[2], new int[] {0, 1});
    }

    /** Promise 38: 6 rows and 6 columns: "what it was". */
    private static void mark() {
        Twins.taken("false true true false", "promise 38: the first", x -> x.mark(0, 0, true) + " " + x.mark(0, 0, true)
                + " " + x.mark(0, 0, false) + " " + x.mark(0, 0, false));
        Twins.taken("true false", "promise 38: the last", x -> x.mark(5, 5, false) + " " + x.mark(5, 5, true));
        Twins.taken("true false", "promise 38: row 0, column 1", x -> x.mark(0, 1, true) + " " + x.mark(1, 0, true));
        Twins.still(true, "promise 38: what it is already", x -> x.mark(5, 5, true));
        for (int wrong : new int[] {-1, 6, LEAST, MOST}) {
            Twins.refused(Check.ARGUMENT, "promise 38: row " + wrong, x -> x.mark(wrong, 0, true));
            Twins.refused(Check.ARGUMENT, "promise 38: column " + wrong, x -> x.mark(0, wrong, true));
        }
    }

    /** "R, c (1 to 6)". */
    private static void agreeRefused() {
        for (int wrong : new int[] {-1, 0, 7, LEAST, MOST}) {
            Twins.refused(Check.ARGUMENT, "promise 39: r " + wrong, x -> x.agree(wrong, 1));
            Twins.refused(Check.ARGUMENT, "promise 39: c " + wrong, x -> x.agree(1, wrong));
        }
    }

    private static void agreed(int[][] want, String... rows) {
        NothingAboveThree x = new NothingAboveThree();
        for (int r = 0; r < 6; r++) {
            for (int c = 0; c < 6; c++) {
                x.mark(r, c, rows[r].charAt(c) == '1');
            }
        }
        for (int r = 1; r <= 6; r++) {
            for (int c = 1; c <= 6; c++) {
                int rowsOf = r;
                int columnsOf = c;
                Check.due(want[r - 1][c - 1], "promise 39: " + r + " rows, " + c + " columns", () -> x.agree(rowsOf, columnsOf));
            }
        }
    }

    /** AGREE of the first r rows and c columns: "0, if all are alike". What is due was counted by another way. */
    private static void agree() {
        String none = "000000";
        String all = "111111";
        int[] nought = {0, 0, 0, 0, 0, 0};
        agreed(new int[][] {nought, nought, nought, nought, nought, nought}, none, none, none, none, none, none);
        agreed(new int[][] {nought, nought, nought, nought, nought, nought}, all, all, all, all, all, all);
        agreed(new int[][] {nought, nought, nought, nought, nought, {0, 0, 0, 0, 0, 2}},
                none, none, none, none, none, "000001");
        agreed(new int[][] {{0, 1, 1, 1, 1, 1}, {1, 2, 2, 2, 2, 2}, {1, 2, 3, 3, 3, 3}, {1, 2, 3, 3, 3, 3},
            {1, 2, 3, 3, 4, 4}, {1, 2, 3, 3, 4, 4}}, "100000", "010000", "001000", "000100", "000010", "000001");
        agreed(new int[][] {nought, {1, 2, 2, 2, 2, 2}, {1, 2, 3, 3, 3, 3}, {1, 2, 3, 3, 3, 3},
            {1, 2, 3, 3, 4, 4}, {1, 2, 3, 3, 4, 4}}, "000000", "100000", "110000", "111000", "111100", "111110");
        agreed(new int[][] {{0, 0, 0, 1, 1, 1}, {0, 2, 2, 2, 2, 2}, {1, 2, 3, 3, 3, 3}, {1, 2, 3, 3, 3, 3},
            {1, 2, 3, 3, 4, 4}, {1, 2, 3, 3, 4, 4}}, "000110", "010100", "100101", "001100", "111111", "000110");
    }

    /** Promise 41: "100 times the a it was, and b" (1 to 99 each); "(both 0: not at all)". */
    private static void rate() {
        Twins.taken("203 9999 101 0", "promise 41: the greatest, the least, not at all", x -> x.rate(0, 1, 99, 99) + " "
                + x.rate(0, 1, 1, 1) + " " + x.rate(0, 1, 0, 0) + " " + x.rate(0, 1, 0, 0));
        Twins.taken("0 199", "promise 41: the first and the last GOOD", x -> x.rate(0, 5, 1, 99) + " " + x.rate(0, 5, 99, 1));
        Twins.taken("0 9901", "promise 41: the last and the first GOOD", x -> x.rate(5, 0, 99, 1) + " " + x.rate(5, 0, 1, 99));
        Twins.still(9897, "promise 41: what it is already", x -> x.rate(5, 4, 98, 97));
    }

    /** "No such GOODS, one and the same, or the numbers." */
    private static void rateRefused() {
        for (int good : new int[] {-1, 6, LEAST, MOST}) {
            Twins.refused(Check.ARGUMENT, "promise 41: a GOOD " + good, x -> x.rate(good, 0, 1, 1));
            Twins.refused(Check.ARGUMENT, "promise 41: another one " + good, x -> x.rate(0, good, 1, 1));
            Twins.refused(Check.ARGUMENT, "promise 41: not at all of " + good, x -> x.rate(good, 0, 0, 0));
        }
        for (int good = 0; good < 6; good++) {
            int same = good;
            Twins.refused(Check.ARGUMENT, "promise 41: one and the same " + good, x -> x.rate(same, same, 1, 1));
            Twins.refused(Check.ARGUMENT, "promise 41: not at all of one and the same", x -> x.rate(same, same, 0, 0));
        }
        for (int number : new int[] {-1, 0, 100, LEAST, MOST}) {
            Twins.refused(Check.ARGUMENT, "promise 41: a " + number, x -> x.rate(0, 1, number, 1));
            Twins.refused(Check.ARGUMENT, "promise 41: b " + number, x -> x.rate(0, 1, 1, number));
            Twins.refused(Check.ARGUMENT, "promise 41: a " + number + " and b 99", x -> x.rate(0, 1, number, 99));
        }
        Twins.refused(Check.ARGUMENT, "promise 41: both -1", x -> x.rate(0, 1, -1, -1));
        Twins.refused(Check.ARGUMENT, "promise 41: both 100", x -> x.rate(0, 1, 100, 100));
    }

    /** "G (2 to 6), what". */
    private static void tradeRefused() {
        for (int g : new int[] {-1, 0, 1, 7, LEAST, MOST}) {
            Twins.refused(Check.ARGUMENT, "promise 42: g " + g, x -> x.trade(g, 0));
        }
        for (int what : new int[] {-1, 2, LEAST, MOST}) {
            Twins.refused(Check.ARGUMENT, "promise 42: what " + what, x -> x.trade(2, what));
        }
    }

    /** RATES by GOOD, other one, a, b. */
    private static Supplier<NothingAboveThree> rates(int[]... all) {
        return () -> {
            NothingAboveThree x = new NothingAboveThree();
            for (int[] one : all) {
                x.rate(one[0], one[1], one[2], one[3]);
            }
            return x;
        };
    }

    private static void traded(String want, int goods, int[]... all) {
        Twins.still(want, "promise 42: of " + goods, rates(all), x -> x.trade(goods, 0) + " " + x.trade(goods, 1));
    }

    /** GAIN: "of the first g GOODS", "above 1 (as fractions)"; a ROUND "over 1 to 3 others"; "NONE: there is none". */
    private static void trade() {
        traded("-1 -1", 2);
        traded("-1 -1", 6);
        for (int g = 2; g <= 6; g++) {
            int[][] last = {{0, g - 1, 1, 2}, {g - 1, 0, 1, 1}};
            traded((g - 1) + " 2000", g, last);
            if (g > 2) {
                traded("-1 -1", g - 1, last);
            }
        }
        traded("37 2000", 6, new int[] {5, 4, 1, 2}, new int[] {4, 5, 1, 1});
        // just 1, just above, just below
        traded("-1 -1", 2, new int[] {0, 1, 99, 98}, new int[] {1, 0, 98, 99});
        traded("1 1000", 2, new int[] {0, 1, 99, 98}, new int[] {1, 0, 97, 98});
        traded("-1 -1", 2, new int[] {0, 1, 98, 97}, new int[] {1, 0, 98, 99});
        traded("-1 -1", 2, new int[] {0, 1, 1, 99});
        // over one, two and three others; five GOODS are none
        int[][] round = {{0, 1, 1, 2}, {1, 2, 1, 2}, {2, 3, 1, 2}, {3, 4, 1, 2}, {4, 0, 1, 2}};
        traded("-1 -1", 6, round);
        traded("-1 -1", 6, round[0], round[1], round[2], round[3]);
        traded("10 4000", 6, round[0], round[1], new int[] {2, 0, 1, 1});
        traded("83 8000", 6, round[0], round[1], round[2], new int[] {3, 0, 1, 1});
        traded("17 4000", 6, new int[] {0, 2, 1, 2}, new int[] {2, 1, 1, 2}, new int[] {1, 0, 1, 1});
        // cut: 3 for 2 is 1,500; 5 for 3 is 1,666; of the whole, not each time
        traded("1 1500", 2, new int[] {0, 1, 2, 3}, new int[] {1, 0, 5, 5});
        traded("1 1666", 2, new int[] {0, 1, 3, 5}, new int[] {1, 0, 7, 7});
        traded("1 1361", 2, new int[] {0, 1, 6, 7}, new int[] {1, 0, 6, 7});
    }

    /** "Of alike ones the fewest GOODS, then the least digits". */
    private static void tradeAlike() {
        int[][] pair = {{3, 5, 1, 2}, {5, 3, 1, 2}};
        int[][] three = {{0, 1, 1, 2}, {1, 2, 1, 2}, {2, 0, 1, 1}};
        int[][] four = {{0, 1, 1, 2}, {1, 2, 1, 2}, {2, 4, 1, 1}, {4, 0, 3, 3}};
        traded("29 4000", 6, pair);
        traded("10 4000", 6, three);
        traded("84 4000", 6, four);
        traded("29 4000", 6, pair[0], pair[1], three[0], three[1], three[2]);
        traded("29 4000", 6, pair[0], pair[1], four[0], four[1], four[2], four[3]);
        traded("10 4000", 6, three[0], three[1], three[2], four[2], four[3]);
        // alike as fractions: 4 for 1 and 36 for 9
        traded("29 4000", 6, pair[0], pair[1], new int[] {0, 1, 3, 6}, new int[] {1, 2, 3, 6}, new int[] {2, 0, 1, 1});
        traded("12 4000", 6, pair[0], pair[1], new int[] {1, 4, 3, 6}, new int[] {4, 1, 3, 6});
        // a greater one counts more than fewer GOODS and lesser digits
        traded("10 4066", 6, pair[0], pair[1], new int[] {0, 1, 30, 61}, three[1], three[2]);
    }

    /** "What comes of 1,000 (cut; 1,000,000,000 at most)". */
    private static void tradeGreatest() {
        traded("83 1000000000", 6, new int[] {0, 1, 1, 99}, new int[] {1, 2, 1, 99}, new int[] {2, 3, 1, 99},
                new int[] {3, 0, 1, 99});
        traded("83 1000000000", 6, new int[] {0, 1, 1, 50}, new int[] {1, 2, 1, 50}, new int[] {2, 3, 1, 20},
                new int[] {3, 0, 1, 20});
        traded("83 999999000", 6, new int[] {0, 1, 1, 37}, new int[] {1, 2, 1, 91}, new int[] {2, 3, 1, 99},
                new int[] {3, 0, 1, 3});
        traded("83 1000000000", 6, new int[] {0, 1, 1, 53}, new int[] {1, 2, 1, 53}, new int[] {2, 3, 1, 89},
                new int[] {3, 0, 1, 4});
    }
}

/** The edges of promises 25 to 27, 30 and 37: two who hold it, odds, shares, the mean, lots. */
public final class EdgesOfOddsTest {
    private static final long REFUSED = 4000000000000000000L;
    private static final Due D = new Due();

    private EdgesOfOddsTest() {
    }

    public static void main(String[] args) {
        two();
        blocked();
        blockedHardly();
        shares();
        mean();
        lots();
        lotsAround();
        D.endOfEdges("EdgesOfOddsTest", 25, 26, 27, 30, 37);
    }

    private static void two() {
        D.edge(25, "no HOUSES", new Percolated().two(0, 1, 0), -1);
        D.edge(25, "one alone", Due.told("n00;").two(0, 1, 0), -1);
        Percolated x = States.nine(1, 0);
        States.pourAll(x, 99);
        D.edge(25, "n 0, the least", x.two(0, 8, 0), 0);
        D.edge(25, "n 1, full", x.two(0, 8, 1), 11);
        D.edge(25, "n 30, the greatest", x.two(8, 0, 30), 11);
        D.edge(25, "n -1", x.two(0, 8, -1), -4);
        D.edge(25, "n 31", x.two(0, 8, 31), -6);
        D.edge(25, "one twice", x.two(8, 8, 0), -1);
        D.edge(25, "HOUSE 9 of nine", x.two(9, 0, 0), -1);
        D.edge(25, "HOUSE 9 of nine, the other", x.two(0, 9, 0), -1);
        D.edge(25, "none is BLOCKED", x.count(3), 0);
        D.edge(25, "empty ones", States.nine(1, 0).two(0, 8, 30), 0);
        D.edge(25, "full and BLOCKED: 3 less for nothing", States.full().two(0, 8, 30), 0);
        int[] held = {2, 3, 4};
        int[] due = {0, 0, 10};
        for (int i = 0; i < held.length; i++) {
            Percolated one = Due.told("n10;n30;");
            one.pours(0, held[i]);
            D.edge(25, "holding " + held[i] + " for 3 less", one.two(0, 1, 1), due[i]);
            D.edge(25, "holding " + held[i] + " for 3 less, the other", one.two(1, 0, 1), due[i] / 10);
        }
        // The lower has ten to hold if the upper lets its one through, which is not worth holding.
        Percolated below = Due.told("n19;n10;x01;v001;");
        D.edge(25, "holding what the other lets through", below.two(1, 0, 1), 10);
        D.edge(25, "holding what the one lets through", below.two(0, 1, 1), 1);
        Percolated none = Due.told("n19;n10;x01;v004;");
        D.edge(25, "nothing to hold, as the other holds it", none.two(1, 0, 1), 1);
        D.edge(25, "nothing to hold, as the one holds it", none.two(0, 1, 1), 10);
        Percolated late = Due.told("n31;n30;v033;");
        D.edge(25, "n 3: three less is not less", late.two(0, 1, 3), 0);
        D.edge(25, "n 4: four less is", late.two(0, 1, 4), 10);
    }

    private static void fraction(String edge, Percolated x, int[] ntv, long above, long below) {
        D.edge(26, edge + ", above the line", x.blocked(ntv[0], ntv[1], ntv[2], 0), above);
        D.edge(26, edge + ", below the line", x.blocked(ntv[0], ntv[1], ntv[2], 1), below);
    }

    private static int[] ntv(int n, int t, int v) {
        return new int[] {n, t, v};
    }

    private static void blocked() {
        Percolated none = new Percolated();
        fraction("no HOUSES, v 0", none, ntv(7, 20, 0), 1, 1);
        fraction("no HOUSES, v 1", none, ntv(7, 20, 1), 0, 1);
        Percolated x = Due.told("n31;v099;");
        fraction("n 0, v 0: sure", x, ntv(0, 2, 0), 1, 1);
        fraction("n 0, v 1: never", x, ntv(0, 20, 1), 0, 1);
        fraction("n 1, t 2, the least", x, ntv(1, 2, 1), 1, 2);
        fraction("n 1, t 20, the greatest", x, ntv(1, 20, 1), 19, 20);
        fraction("n 7, t 2, in all of seven", x, ntv(7, 2, 7), 1, 128);
        fraction("n 7, t 2, in one of seven", x, ntv(7, 2, 1), 127, 128);
        fraction("n 7, t 2, in four of seven", x, ntv(7, 2, 4), 1, 2);
        fraction("n 7, t 20, in all of seven", x, ntv(7, 20, 7), 893871739L, 1280000000L);
        fraction("n 7, t 20, in one of seven", x, ntv(7, 20, 1), 1279999999L, 1280000000L);
        fraction("n 7, v 8: never", x, ntv(7, 20, 8), 0, 1);
        fraction("v 999, the greatest: never", x, ntv(7, 2, 999), 0, 1);
        D.edge(26, "n -1", x.blocked(-1, 2, 0, 0), REFUSED + 4);
        D.edge(26, "v -1", x.blocked(0, 2, -1, 0), REFUSED + 4);
        D.edge(26, "t 1", x.blocked(0, 1, 0, 0), REFUSED + 4);
        D.edge(26, "t 0", x.blocked(0, 0, 0, 0), REFUSED + 4);
        D.edge(26, "n 8", x.blocked(8, 2, 0, 0), REFUSED + 6);
        D.edge(26, "t 21", x.blocked(0, 21, 0, 0), REFUSED + 6);
        D.edge(26, "v 1000", x.blocked(0, 2, 1000, 0), REFUSED + 6);
        D.edge(26, "part -1", x.blocked(0, 2, 0, -1), REFUSED + 2);
        D.edge(26, "part 2", x.blocked(0, 2, 0, 2), REFUSED + 2);
        D.edge(26, "the CUP stays", x.count(2), 0);
    }

    private static void blockedHardly() {
        Percolated cup = States.cupOf(998);
        cup.pours(0, 1);
        fraction("the CUP has 998, one more for 999", cup, ntv(2, 3, 999), 8, 9);
        cup.hours(1);
        fraction("the CUP has 999 for 999", cup, ntv(7, 2, 999), 1, 1);
        fraction("a full CUP", States.full(), ntv(7, 20, 999), 1, 1);
        Percolated stopped = Due.told("n10;v099;b0;");
        fraction("a BLOCKED HOUSE, v 1", stopped, ntv(7, 2, 1), 0, 1);
        fraction("a BLOCKED HOUSE, v 0", stopped, ntv(7, 2, 0), 1, 1);
    }

    private static void shares() {
        Percolated none = new Percolated();
        Percolated full = States.cupOf(9999);
        int[] over = {0, 1, 0, 3, 4, 3, 3, 7, 0};
        for (int n = 1; n <= 9; n++) {
            D.edge(27, "an empty CUP by " + n, none.shares(n, 0), 0);
            D.edge(27, "an empty CUP by " + n + ", over", none.shares(n, 1), 0);
            D.edge(27, "a full CUP by " + n, full.shares(n, 0), (9999 - over[n - 1]) / n);
            D.edge(27, "a full CUP by " + n + ", over", full.shares(n, 1), over[n - 1]);
        }
        D.edge(27, "fewer than n", States.cupOf(8).shares(9, 0), 0);
        D.edge(27, "fewer than n, over", States.cupOf(8).shares(9, 1), 8);
        D.edge(27, "n 0", full.shares(0, 0), -4);
        D.edge(27, "n 10", full.shares(10, 0), -6);
        D.edge(27, "what -1", full.shares(1, -1), -2);
        D.edge(27, "what 2", full.shares(9, 2), -2);
        D.edge(27, "the CUP stays", full.count(2), 9999);
    }

    private static void mean() {
        D.edge(30, "no HOUSES, above the line", new Percolated().mean(0), 0);
        D.edge(30, "no HOUSES, below the line", new Percolated().mean(1), 1);
        Percolated nine = States.nine(0, 0);
        D.edge(30, "nine empty ones, above", nine.mean(0), 0);
        D.edge(30, "nine empty ones, below", nine.mean(1), 1);
        nine.pours(8, 1);
        D.edge(30, "one of nine, above", nine.mean(0), 1);
        D.edge(30, "one of nine, below", nine.mean(1), 9);
        nine.pours(0, 2);
        D.edge(30, "three of nine in lowest terms, above", nine.mean(0), 1);
        D.edge(30, "three of nine in lowest terms, below", nine.mean(1), 3);
        Percolated two = Due.told("n00;n00;n00;n00;v302;");
        D.edge(30, "two of four in lowest terms, above", two.mean(0), 1);
        D.edge(30, "two of four in lowest terms, below", two.mean(1), 2);
        Percolated full = States.full();
        D.edge(30, "full, above", full.mean(0), 99);
        D.edge(30, "full, below", full.mean(1), 1);
        D.edge(30, "part -1", full.mean(-1), REFUSED + 2);
        D.edge(30, "part 2", full.mean(2), REFUSED + 2);
    }

    private static void lots() {
        Percolated none = new Percolated();
        D.edge(37, "no HOUSES, n 1: the CUP", none.lots(1, 7, 0), 0);
        D.edge(37, "no HOUSES, n 20: all HOLD", none.lots(20, Integer.MIN_VALUE, 1), 0);
        Percolated x = Due.told("n30;");
        // From seed 0 the first week's draws of v are 28, 37 and 7.
        D.edge(37, "n 1, the least", x.lots(1, 0, 1), 72);
        D.edge(37, "n 0", x.lots(0, 0, 0), -4);
        D.edge(37, "n -1", x.lots(-1, 0, 0), -4);
        D.edge(37, "n 21", x.lots(21, 0, 0), -6);
        D.edge(37, "what -1", x.lots(1, 0, -1), -2);
        D.edge(37, "what 2", x.lots(20, 0, 2), -2);
        D.edge(37, "nothing is POURED", x.count(5), 0);
        D.edge(37, "no HOURS go by", x.count(1), 0);
        Percolated held = Due.told("n30;v099;");
        D.edge(37, "n 20, the greatest, a full HOUSE", held.lots(20, 0, 1), 20 * 99);
        Percolated full = States.full();
        D.edge(37, "full: the CUP more", full.lots(20, 5, 0), 0);
        D.edge(37, "full: all HOLD", full.lots(20, 5, 1), 20 * 891);
        States.blockAll(full);
        D.edge(37, "full, not BLOCKED: the CUP more", full.lots(20, 5, 0), 0);
        Percolated pump = Due.told("n31;v099;");
        D.edge(37, "twelve HOURS: the CUP", pump.lots(20, 1, 0), 20 * 12);
        D.edge(37, "twelve HOURS: all HOLD", pump.lots(20, 1, 1), 20 * 87);
    }

    /** What the document says of the draws, in numbers that do not wrap. */
    private static int drawnOf(int seed, int draws) {
        long two32 = 1L << 32;
        long z = Math.floorMod((long) seed, two32);
        int sum = 0;
        for (int i = 1; i <= draws; i++) {
            z = (z * 1103515245L + 12345) % two32;
            int drawn = (int) (z % (1L << 31) / 65536);
            sum += i % 2 == 0 ? drawn % 40 : 0;
        }
        return sum;
    }

    private static void lotsAround() {
        Percolated x = Due.told("n10;");
        // The sums of v: a CANON with FIGURE 0 gives all of it to the CUP, if it is below 100.
        int[] seeds = {0, 1, -1, Integer.MAX_VALUE, Integer.MIN_VALUE, Integer.MIN_VALUE + 1, 65535, 65536, 1103515245};
        for (int seed : seeds) {
            int due = Math.min(99, drawnOf(seed, 6));
            D.edge(37, "seed " + seed + " wraps around", x.lots(1, seed, 0), due);
            int other = seed ^ Integer.MIN_VALUE;
            D.edge(37, "seed " + other + " is alike but for its sign's bit", x.lots(20, other, 0), x.lots(20, seed, 0));
        }
        D.edge(37, "seed 0, by hand", x.lots(1, 0, 0), 28 + 37 + 7);
        D.edge(37, "seed -2147483648, by hand", x.lots(1, Integer.MIN_VALUE, 0), 28 + 37 + 7);
        D.edge(37, "seed 0, twice", x.lots(2, 0, 0), drawnOf(0, 12));
    }
}

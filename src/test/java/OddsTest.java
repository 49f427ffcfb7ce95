/** Promises 25 to 27, 30 and 37: two who hold it, odds, shares, the mean, weeks by lot. */
public final class OddsTest {
    private static final long REFUSED = 4000000000000000000L;
    private static final Due D = new Due();

    public static void main(String[] args) {
        two();
        blocked();
        shares();
        mean();
        lots();
        D.end("OddsTest");
    }

    private static void two() {
        Percolated x = Due.told("n10;n10;n10;x01;v010;");
        D.due("25: the upper holds it", x.two(0, 1, 1), 10);
        D.due("25: told the other way", x.two(1, 0, 1), 1);
        D.due("25: no hours, no use", x.two(0, 1, 0), 0);
        Percolated both = Due.told("n10;n10;v010;v110;");
        D.due("25: both hold it", both.two(0, 1, 30), 11);
        Percolated price = Due.told("n10;n10;v003;v104;");
        D.due("25: three is not more than nothing", price.two(0, 1, 1), 1);
        Percolated stopped = Due.told("n10;n10;v010;v110;b0;b1;");
        D.due("25: BLOCKED ones hold it for nothing", stopped.two(0, 1, 5), 0);
        D.due("25: one twice", x.two(0, 0, -1), -1);
        D.due("25: no one", x.two(3, 0, 0), -1);
        D.due("25: no other", x.two(0, 3, 31), -1);
        D.due("25: -1", x.two(-1, 0, 0), -1);
        D.due("25: other -1", x.two(0, -1, 0), -1);
        D.due("25: n -1", x.two(0, 1, -1), -4);
        D.due("25: n 31", x.two(0, 1, 31), -6);
        D.due("25: n 30", x.two(0, 1, 30), 10);
    }

    private static void fraction(String what, Percolated x, int n, int t, int v, long a, long b) {
        D.due(what + ", above", x.blocked(n, t, v, 0), a);
        D.due(what + ", below", x.blocked(n, t, v, 1), b);
    }

    private static void blocked() {
        Percolated x = Due.told("n10;v005;");
        fraction("26: one of two", x, 2, 3, 5, 8, 9);
        fraction("26: sure", x, 2, 3, 0, 1, 1);
        fraction("26: never", x, 2, 3, 6, 0, 1);
        fraction("26: no hours", x, 0, 2, 1, 0, 1);
        fraction("26: one of seven", x, 7, 20, 5, 1279999999L, 1280000000L);
        Percolated pump = Due.told("n32;v010;");
        fraction("26: lowest terms", pump, 3, 2, 4, 1, 2);
        fraction("26: two of four, 72 of 81", pump, 4, 3, 3, 8, 9);
        D.due("26: n -1", x.blocked(-1, 21, 0, 2), REFUSED + 4);
        D.due("26: t 1", x.blocked(8, 1, 0, 2), REFUSED + 4);
        D.due("26: v -1", x.blocked(8, 21, -1, 2), REFUSED + 4);
        D.due("26: n 8", x.blocked(8, 2, 0, 2), REFUSED + 6);
        D.due("26: t 21", x.blocked(0, 21, 0, 2), REFUSED + 6);
        D.due("26: v 1000", x.blocked(0, 2, 1000, 2), REFUSED + 6);
        D.due("26: part 2", x.blocked(7, 20, 999, 2), REFUSED + 2);
        D.due("26: part -1", x.blocked(0, 2, 0, -1), REFUSED + 2);
        D.due("26: -4 counted", x.count(14), 3);
        D.due("26: -6 counted", x.count(16), 3);
        D.due("26: -2 counted", x.count(12), 2);
    }

    private static void shares() {
        Percolated x = Due.told("n12;v009;d01;");
        D.due("27: by three", x.shares(3, 0), 3);
        D.due("27: over", x.shares(3, 1), 2);
        D.due("27: by one", x.shares(1, 0), 11);
        D.due("27: none over", x.shares(1, 1), 0);
        D.due("27: by nine", x.shares(9, 0), 1);
        D.due("27: over of nine", x.shares(9, 1), 2);
        D.due("27: n 0", x.shares(0, 9), -4);
        D.due("27: n 10", x.shares(10, 9), -6);
        D.due("27: what 2", x.shares(9, 2), -2);
        D.due("27: what -1", x.shares(1, -1), -2);
        D.due("27: the CUP stays", x.count(2), 11);
    }

    private static void mean() {
        Percolated x = Due.told("n00;n00;v003;v104;");
        D.due("30: above", x.mean(0), 7);
        D.due("30: below", x.mean(1), 2);
        x.house(0, 0);
        x.pours(2, 2);
        D.due("30: lowest terms, above", x.mean(0), 3);
        D.due("30: lowest terms, below", x.mean(1), 1);
        Percolated one = Due.told("n00;n00;v001;");
        D.due("30: one over two, above", one.mean(0), 1);
        D.due("30: one over two, below", one.mean(1), 2);
        Percolated empty = Due.told("n00;n00;");
        D.due("30: nothing", empty.mean(0), 0);
        D.due("30: nothing over 1", empty.mean(1), 1);
        D.due("30: none", new Percolated().mean(0), 0);
        D.due("30: none over 1", new Percolated().mean(1), 1);
        D.due("30: part 2", x.mean(2), REFUSED + 2);
        D.due("30: part -1", x.mean(-1), REFUSED + 2);
        D.due("30: -2 counted", x.count(12), 2);
    }

    private static void lots() {
        // From seed 0 the draws are 0, 21468, 9988, 22117, 3498, 16927, 16045, 19741, ..
        Percolated x = Due.told("n10;");
        D.due("37: 28, 37 and 7", x.lots(1, 0, 0), 72);
        D.due("37: all gone", x.lots(1, 0, 1), 0);
        D.due("37: 21, 10 and 12 more", x.lots(2, 0, 0), 115);
        Percolated tight = Due.told("n30;v090;");
        D.due("37: 99 held, each week from now", tight.lots(2, 0, 1), 198);
        D.due("37: nothing comes", tight.lots(2, 0, 0), 0);
        Percolated more = Due.told("n10;v009;d01;v001;");
        D.due("37: more than the CUP has", more.lots(1, 0, 0), 73);
        Percolated three = Due.told("n30;n10;n30;");
        // HOUSES 0, 1 and 0 of three: 37 goes through, 28 and 7 stay.
        D.due("37: HOUSES by lot", three.lots(1, 0, 0), 37);
        D.due("37: what all HOLD", three.lots(1, 0, 1), 35);
        D.due("37: in twelve hours", Due.told("n31;").lots(1, 0, 0), 12);
        D.due("37: no HOUSES", new Percolated().lots(20, 77, 1), 0);
        D.due("37: n 0", x.lots(0, 0, 9), -4);
        D.due("37: n 21", x.lots(21, 0, 9), -6);
        D.due("37: what 2", x.lots(20, 0, 2), -2);
        D.due("37: what -1", x.lots(1, 0, -1), -2);
    }
}

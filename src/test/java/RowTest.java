/** Promises 22 to 24 and 34 to 36: what a row of numbers tells. */
public final class RowTest {
    private static final Due D = new Due();

    public static void main(String[] args) {
        row();
        judge();
        clear();
        whichBlocked();
        wasPoured();
        whatKind();
        D.end("RowTest");
    }

    private static void row() {
        Percolated x = new Percolated();
        D.due("34: v -1", x.row(-1), -4);
        D.due("34: v 100", x.row(100), -6);
        for (int i = 1; i <= 12; i++) {
            D.due("34: how many", x.row(i % 2 * 99), i);
        }
        D.due("34: one more than 12", x.row(0), -6);
        D.due("34: v -1 behind 12", x.row(-1), -4);
        D.due("34: still 12", x.count(7), 12);
    }

    private static void judge() {
        Percolated x = Due.told("n00;n00;n00;v007;v208;");
        D.due("35: none told", x.judge(), -9);
        Due.row(x, 7, 0, 8);
        D.due("35: all so", x.judge(), -9);
        D.due("35: no ROW then", x.count(7), 0);
        Due.row(x, 7, 1, 9);
        D.due("35: the first not so", x.judge(), 1);
        D.due("35: no ROW then", x.count(7), 0);
        Due.row(x, 8);
        D.due("35: HOUSE 0", x.judge(), 0);
        Due.row(x, 7, 0, 8, 0);
        D.due("35: none there", x.judge(), 3);
        Due.row(x, 7, 0);
        D.due("35: fewer than there are", x.judge(), -9);
    }

    private static void clear() {
        Percolated x = new Percolated();
        Due.row(x, 1, 2, 3);
        D.due("36: how many it had", x.clear(), 3);
        D.due("36: none", x.count(7), 0);
        D.due("36: none again", x.clear(), 0);
        D.due("36: one more", x.row(5), 1);
    }

    private static void whichBlocked() {
        Percolated x = Due.told("n11;n12;v005;v104;");
        D.due("22: without a ROW all of it is so", x.whichBlocked(), 3);
        Due.row(x, 0, 6, 6);
        D.due("22: either", x.whichBlocked(), 3);
        D.due("22: the ROW stays", x.count(7), 3);
        x.pours(0, 1);
        D.due("22: only the one that has more now", x.whichBlocked(), 1);
        x.blocks(0);
        D.due("22: a BLOCKED one is none", x.whichBlocked(), 0);
        x.blocks(0);
        x.clear();
        Due.row(x, 1);
        D.due("22: not the CUP now", x.whichBlocked(), 0);
        x.clear();
        Due.row(x, 0, 6, 6, 6, 6, 6, 6, 6, 6, 6, 6, 7);
        D.due("22: the last of twelve is not so", x.whichBlocked(), 0);
        D.due("22: no HOUSES", new Percolated().whichBlocked(), 0);
    }

    private static void wasPoured() {
        Percolated x = Due.told("n00;n10;");
        Due.row(x, 0, 6);
        D.due("23: how many", x.wasPoured(0, 0), 2);
        D.due("23: the least", x.wasPoured(0, 1), 9);
        D.due("23: the greatest", x.wasPoured(0, 2), 10);
        D.due("23: into the other", x.wasPoured(1, 0), 1);
        D.due("23: its least", x.wasPoured(1, 1), 6);
        D.due("23: the ROW stays", x.count(7), 2);
        x.row(5);
        D.due("23: none", x.wasPoured(0, 0), 0);
        D.due("23: no least", x.wasPoured(0, 1), -9);
        D.due("23: no greatest", x.wasPoured(0, 2), -9);
        x.clear();
        D.due("23: no ROW: any", x.wasPoured(0, 0), 100);
        D.due("23: no ROW: from 0", x.wasPoured(0, 1), 0);
        D.due("23: no ROW: to 99", x.wasPoured(0, 2), 99);
        Due.row(x, 0, 0);
        D.due("23: nothing poured", x.wasPoured(0, 0), 1);
        D.due("23: v 0", x.wasPoured(0, 2), 0);
        D.due("23: no house", x.wasPoured(2, 9), -1);
        D.due("23: house -1", x.wasPoured(-1, 0), -1);
        D.due("23: what -1", x.wasPoured(0, -1), -2);
        D.due("23: what 3", x.wasPoured(0, 3), -2);
    }

    private static void whatKind() {
        Percolated x = Due.told("n04;v007;");
        D.due("24: no ROW: any KIND", x.whatKind(0, 0), 63);
        D.due("24: no ROW: any FIGURE", x.whatKind(0, 1), 1023);
        int[] cups = {5, 11, 6, 4, 5, 8};
        int[] bits = {17, 2, 4, 8, 17, 32};
        for (int kind = 0; kind <= 5; kind++) {
            Due.row(x, 0, cups[kind]);
            D.due("24: KINDS", x.whatKind(0, 0), bits[kind]);
            D.due("24: the ROW stays", x.clear(), 2);
        }
        Due.row(x, 0, 5);
        D.due("24: any FIGURE of a HOUSE", x.whatKind(0, 1), 1023);
        Percolated canon = Due.told("n14;v007;");
        Due.row(canon, 0, 15);
        D.due("24: one FIGURE of a CANON", canon.whatKind(0, 1), 1 << 8);
        D.due("24: no KIND", canon.whatKind(0, 0), 0);
        Percolated pump = Due.told("n30;n11;v003;");
        Due.row(pump, 0, 3, 3);
        D.due("24: FIGURES of a PUMP", pump.whatKind(0, 1), 1023 - 7);
        D.due("24: another HOUSE", pump.whatKind(1, 1), 0);
        D.due("24: no house", x.whatKind(1, 2), -1);
        D.due("24: house -1", x.whatKind(-1, 0), -1);
        D.due("24: what -1", x.whatKind(0, -1), -2);
        D.due("24: what 2", x.whatKind(0, 2), -2);
    }
}

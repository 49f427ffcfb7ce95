/** The edges of promises 22 to 24 and 34 to 36: what a row of numbers tells. */
public final class EdgesOfRowTest {
    private static final Due D = new Due();

    private EdgesOfRowTest() {
    }

    public static void main(String[] args) {
        row();
        judge();
        clear();
        whichBlocked();
        wasPoured();
        whatKind();
        cupBeyondTheRow();
        D.endOfEdges("EdgesOfRowTest", 22, 23, 24, 34, 35, 36);
    }

    private static void rowOf(Percolated x, int first, int others, int length) {
        x.clear();
        for (int i = 0; i < length; i++) {
            x.row(i == 0 ? first : others);
        }
    }

    private static void row() {
        Percolated x = new Percolated();
        D.edge(34, "v 0, the least", x.row(0), 1);
        D.edge(34, "v -1", x.row(-1), -4);
        D.edge(34, "v 99, the greatest", x.row(99), 2);
        D.edge(34, "v 100", x.row(100), -6);
        for (int i = 3; i < 12; i++) {
            x.row(i);
        }
        D.edge(34, "the twelfth", x.row(0), 12);
        D.edge(34, "the thirteenth, full", x.row(0), -6);
        D.edge(34, "twelve there are", x.count(7), 12);
        x.judge();
        D.edge(34, "behind judge() there is room again", x.row(0), 1);
        x.clear();
        D.edge(34, "behind clear() there is room again", x.row(0), 1);
    }

    private static void judge() {
        Percolated none = new Percolated();
        D.edge(35, "no ROW, no HOUSES", none.judge(), -9);
        none.row(0);
        D.edge(35, "no HOUSES: HOUSE 0 is not there", none.judge(), 0);
        D.edge(35, "the ROW has none behind an answer", none.count(7), 0);
        Percolated x = States.full();
        D.edge(35, "no ROW", x.judge(), -9);
        rowOf(x, 99, 99, 9);
        D.edge(35, "nine are so", x.judge(), -9);
        D.edge(35, "the ROW has none behind -9", x.count(7), 0);
        rowOf(x, 99, 99, 10);
        D.edge(35, "the tenth is not there", x.judge(), 9);
        rowOf(x, 99, 99, 12);
        D.edge(35, "full: of twelve the first not there", x.judge(), 9);
        rowOf(x, 98, 0, 12);
        D.edge(35, "full: none is so, the first", x.judge(), 0);
        for (int i = 0; i < 9; i++) {
            x.row(i < 8 ? 99 : 98);
        }
        D.edge(35, "the last is not so", x.judge(), 8);
        rowOf(x, 99, 0, 1);
        D.edge(35, "fewer than there are", x.judge(), -9);
        Percolated empty = States.nine(0, 0);
        rowOf(empty, 0, 0, 9);
        D.edge(35, "nine empty ones", empty.judge(), -9);
    }

    private static void clear() {
        Percolated x = new Percolated();
        D.edge(36, "empty", x.clear(), 0);
        rowOf(x, 1, 2, 12);
        x.row(3);
        D.edge(36, "full, the thirteenth refused", x.clear(), 12);
        D.edge(36, "empty then", x.count(7), 0);
        D.edge(36, "empty again", x.clear(), 0);
    }

    private static void whichBlocked() {
        D.edge(22, "no HOUSES, no ROW", new Percolated().whichBlocked(), 0);
        Percolated none = new Percolated();
        none.row(0);
        D.edge(22, "no HOUSES", none.whichBlocked(), 0);
        Percolated nine = States.nine(1, 0);
        States.pourAll(nine, 1);
        D.edge(22, "no ROW: all of nine", nine.whichBlocked(), 511);
        nine.row(0);
        D.edge(22, "a ROW of the CUP now: all of nine", nine.whichBlocked(), 511);
        rowOf(nine, 0, 8, 2);
        D.edge(22, "each takes one away: all of nine", nine.whichBlocked(), 511);
        rowOf(nine, 0, 9, 2);
        D.edge(22, "none takes nothing away", nine.whichBlocked(), 0);
        rowOf(nine, 1, 8, 2);
        D.edge(22, "not so now", nine.whichBlocked(), 0);
        nine.pours(8, 1);
        rowOf(nine, 0, 8, 12);
        D.edge(22, "full: the last of nine alone", nine.whichBlocked(), 256);
        D.edge(22, "full: the ROW stays", nine.count(7), 12);
        D.edge(22, "none is BLOCKED by it", nine.count(3), 0);
        States.blockAll(nine);
        D.edge(22, "all BLOCKED", nine.whichBlocked(), 0);
        nine.clear();
        D.edge(22, "all BLOCKED, no ROW", nine.whichBlocked(), 0);
        nine.blocks(8);
        D.edge(22, "all BLOCKED but the last, no ROW", nine.whichBlocked(), 256);
        // One an hour: the twelfth number tells the CUP behind eleven hours.
        Percolated slow = Due.told("n31;n30;v099;");
        Due.row(slow, 0, 1, 2, 3, 4, 5, 6, 7, 8, 9, 10, 11);
        D.edge(22, "full: twelve numbers tell 0 to 11 HOURS", slow.whichBlocked(), 2);
        slow.clear();
        Due.row(slow, 0, 1, 2, 3, 4, 5, 6, 7, 8, 9, 10, 12);
        D.edge(22, "full: the twelfth is not so", slow.whichBlocked(), 0);
    }

    private static void wasPoured() {
        Percolated none = new Percolated();
        D.edge(23, "no HOUSES", none.wasPoured(0, 0), -1);
        Percolated x = Due.told("n10;");
        poured(x, 0, "no ROW", 100, 0, 99);
        rowOf(x, 0, 0, 12);
        poured(x, 0, "full, v 0 alone", 1, 0, 0);
        rowOf(x, 0, 99, 12);
        poured(x, 0, "full, v 99 alone", 1, 99, 99);
        D.edge(23, "full: the ROW stays", x.count(7), 12);
        rowOf(x, 0, 0, 1);
        poured(x, 0, "the CUP now", 100, 0, 99);
        rowOf(x, 1, 1, 1);
        poured(x, 0, "not the CUP now", 0, -9, -9);
        D.edge(23, "nothing is POURED", x.houseOf(0, 2) + x.houseOf(0, 5), 0);
        D.edge(23, "HOUSE 1 of one", x.wasPoured(1, 0), -1);
        D.edge(23, "HOUSE -1", x.wasPoured(-1, 0), -1);
        D.edge(23, "what -1", x.wasPoured(0, -1), -2);
        D.edge(23, "what 3", x.wasPoured(0, 3), -2);
        Percolated full = Due.told("n31;v099;");
        rowOf(full, 0, 1, 2);
        poured(full, 0, "a full HOUSE takes any", 100, 0, 99);
        Percolated near = Due.told("n10;v001;");
        rowOf(near, 0, 99, 2);
        poured(near, 0, "99 held by 98 or 99", 2, 98, 99);
        Percolated last = States.nine(1, 0);
        rowOf(last, 0, 7, 2);
        poured(last, 8, "into the last of nine", 1, 7, 7);
        D.edge(23, "HOUSE 9 of nine", last.wasPoured(9, 0), -1);
        last.blocks(8);
        poured(last, 8, "into a BLOCKED one", 0, -9, -9);
    }

    private static void poured(Percolated x, int house, String edge, int many, int least, int greatest) {
        D.edge(23, edge + ": how many", x.wasPoured(house, 0), many);
        D.edge(23, edge + ": the least", x.wasPoured(house, 1), least);
        D.edge(23, edge + ": the greatest", x.wasPoured(house, 2), greatest);
    }

    private static void whatKind() {
        D.edge(24, "no HOUSES", new Percolated().whatKind(0, 0), -1);
        Percolated x = Due.told("n35;");
        D.edge(24, "no ROW: KINDS", x.whatKind(0, 0), 63);
        D.edge(24, "no ROW: FIGURES", x.whatKind(0, 1), 1023);
        rowOf(x, 0, 0, 12);
        D.edge(24, "full, an empty HOUSE: KINDS", x.whatKind(0, 0), 63);
        D.edge(24, "full, an empty HOUSE: FIGURES", x.whatKind(0, 1), 1023);
        D.edge(24, "full: the ROW stays", x.count(7), 12);
        rowOf(x, 1, 0, 1);
        D.edge(24, "none: KINDS", x.whatKind(0, 0), 0);
        D.edge(24, "none: FIGURES", x.whatKind(0, 1), 0);
        D.edge(24, "HOUSE 1 of one", x.whatKind(1, 0), -1);
        D.edge(24, "HOUSE -1", x.whatKind(-1, 0), -1);
        D.edge(24, "what -1", x.whatKind(0, -1), -2);
        D.edge(24, "what 2", x.whatKind(0, 2), -2);
        // 99 held: a HOUSE gives 50 and 1, a CANON 99, a MISS 49 and 3, an INVALID 24 and 3.
        int[] cups = {51, 99, 52, 0, 99, 27};
        int[] kinds = {1, 18, 4, 8, 18, 32};
        for (int kind = 0; kind <= 5; kind++) {
            Percolated one = new Percolated();
            one.house(kind, 0);
            one.pours(0, 99);
            rowOf(one, 0, cups[kind], 2);
            D.edge(24, "FIGURE 0, the least, full, KIND " + kind, one.whatKind(0, 0), kinds[kind]);
        }
        Percolated canon = Due.told("n15;v090;");
        rowOf(canon, 0, 90, 2);
        D.edge(24, "the least FIGURE", canon.whatKind(0, 1), 1);
        rowOf(canon, 0, 99, 2);
        D.edge(24, "the greatest FIGURE", canon.whatKind(0, 1), 512);
        D.edge(24, "it keeps its own", canon.houseOf(0, 1) + canon.houseOf(0, 0), 6);
        Percolated stopped = Due.told("n15;v090;b0;");
        rowOf(stopped, 0, 0, 12);
        D.edge(24, "a BLOCKED one: KINDS", stopped.whatKind(0, 0), 63);
        Percolated last = States.nine(1, 0);
        last.pours(8, 10);
        rowOf(last, 0, 10, 2);
        D.edge(24, "the last of nine", last.whatKind(8, 0), 18);
        D.edge(24, "HOUSE 9 of nine", last.whatKind(9, 0), -1);
    }

    /** No number of the row is above 99, so a cup with more is never told. */
    private static void cupBeyondTheRow() {
        Percolated x = States.cupOf(100);
        rowOf(x, 99, 99, 1);
        D.edge(22, "the CUP has 100", x.whichBlocked(), 0);
        D.edge(23, "the CUP has 100", x.wasPoured(0, 0), 0);
        D.edge(24, "the CUP has 100", x.whatKind(0, 0), 0);
        Percolated y = States.cupOf(99);
        rowOf(y, 99, 99, 12);
        D.edge(22, "the CUP has 99, full", y.whichBlocked(), 511);
        D.edge(23, "the CUP has 99, full", y.wasPoured(0, 2), 0);
        D.edge(24, "the CUP has 99, full", y.whatKind(0, 1), 1023);
    }
}

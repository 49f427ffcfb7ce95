/** Promises 1, 4 to 11 and 38 to 40: what there is, what changes it, what takes it back. */
public final class StateTest {
    private static final Due D = new Due();

    public static void main(String[] args) {
        newObject();
        houseOf();
        letOfEachKind();
        addsOfEachKind();
        house();
        joins();
        blocks();
        pours();
        empties();
        hours();
        hoursByNumbers();
        hoursHeldAtMost();
        back();
        backForgotten();
        image();
        count();
        D.end("StateTest");
    }

    private static void newObject() {
        Percolated x = new Percolated();
        for (int what = 0; what <= 8; what++) {
            D.due("1: count " + what + " of a new object", x.count(what), 0);
        }
        for (int what = 11; what <= 16; what++) {
            D.due("1: count " + what + " of a new object", x.count(what), 0);
        }
        D.due("1: no house 0", x.houseOf(0, 0), -1);
        D.due("1: no image", x.restore(), -3);
    }

    private static void houseOf() {
        Percolated x = Due.told("n46;n25;x05;v007;b1;");
        D.due("4: KIND", x.houseOf(0, 0), 4);
        D.due("4: FIGURE", x.houseOf(0, 1), 6);
        D.due("4: HOLDS", x.houseOf(0, 2), 7);
        D.due("4: NEXT that is not there", x.houseOf(0, 3), 5);
        D.due("4: NEXT at first", x.houseOf(1, 3), 9);
        D.due("4: not BLOCKED", x.houseOf(0, 4), 0);
        D.due("4: BLOCKED", x.houseOf(1, 4), 1);
        D.due("4: WET", x.houseOf(0, 5), 1);
        D.due("4: not WET", x.houseOf(1, 5), 0);
        D.due("4: LET", x.houseOf(0, 6), 1);
        x.blocks(0);
        D.due("4: LET of a BLOCKED one", x.houseOf(0, 6), 0);
        D.due("4: house -1", x.houseOf(-1, 0), -1);
        D.due("4: house 2 of two", x.houseOf(2, 9), -1);
        D.due("4: what -1", x.houseOf(0, -1), -2);
        D.due("4: what 7", x.houseOf(0, 7), -2);
        D.due("4: -1 counted", x.count(11), 2);
        D.due("4: -2 counted", x.count(12), 2);
    }

    private static int let(int kind, int figure, int held) {
        Percolated x = new Percolated();
        x.house(kind, figure);
        x.pours(0, held);
        return x.houseOf(0, 6);
    }

    private static void letOfEachKind() {
        int[][] cases = {
            {0, 4, 7, 4}, {0, 4, 8, 4}, {0, 4, 1, 1}, {0, 4, 0, 0},
            {1, 4, 7, 7}, {1, 0, 1, 1}, {1, 9, 0, 0},
            {2, 4, 7, 3}, {2, 4, 8, 4}, {2, 4, 1, 0}, {2, 0, 2, 1},
            {3, 4, 7, 4}, {3, 9, 7, 7}, {3, 0, 7, 0}, {3, 7, 7, 7},
            {4, 4, 7, 3}, {4, 9, 7, 0}, {4, 0, 7, 7}, {4, 7, 7, 0}, {4, 6, 7, 1},
            {5, 4, 7, 1}, {5, 4, 8, 2}, {5, 4, 3, 0}, {5, 4, 4, 1}, {5, 4, 99, 24},
        };
        for (int[] c : cases) {
            String what = "LET of kind " + c[0] + " figure " + c[1] + " holding " + c[2];
            D.due(what, let(c[0], c[1], c[2]), c[3]);
        }
    }

    private static void addsOfEachKind() {
        int[][] cases = { // kind, what the CUP has, what is left of 7 with FIGURE 5
            {0, 4 + 1, 3}, {1, 7 + 5, 0}, {2, 3 + 3, 4}, {3, 5, 2}, {4, 2 + 2, 5}, {5, 1 + 8, 6},
        };
        for (int[] c : cases) {
            Percolated x = new Percolated();
            x.house(c[0], 5);
            x.pours(0, 7);
            D.due("kind " + c[0] + " to the CUP", x.hours(1), c[1]);
            D.due("kind " + c[0] + " keeps", x.houseOf(0, 2), c[2]);
            Percolated dry = new Percolated();
            dry.house(c[0], 5);
            D.due("kind " + c[0] + " adds nothing to nothing", dry.hours(1), 0);
        }
    }

    private static void house() {
        Percolated x = new Percolated();
        D.due("5: kind -1", x.house(-1, -1), -2);
        D.due("5: kind 6", x.house(6, 99), -2);
        D.due("5: figure -1", x.house(0, -1), -4);
        D.due("5: figure 10", x.house(0, 10), -6);
        D.due("5: none came", x.count(0), 0);
        for (int i = 0; i < 9; i++) {
            D.due("5: number", x.house(i % 6, 9 - i), i);
        }
        D.due("5: KIND of house 8", x.houseOf(8, 0), 2);
        D.due("5: FIGURE of house 8", x.houseOf(8, 1), 1);
        D.due("5: the tenth", x.house(0, 0), -6);
        D.due("5: the tenth of no kind", x.house(6, 0), -2);
        D.due("5: the tenth of no figure", x.house(0, -1), -4);
        D.due("5: nine there are", x.count(0), 9);
        D.due("5: -2 counted", x.count(12), 3);
        D.due("5: -4 counted", x.count(14), 2);
        D.due("5: -6 counted", x.count(16), 2);
    }

    private static void joins() {
        Percolated x = Due.told("n00;n00;");
        D.due("6: the old NEXT", x.joins(0, 1), 9);
        D.due("6: the old NEXT again", x.joins(0, 8), 1);
        D.due("6: the same NEXT", x.joins(0, 8), 8);
        D.due("6: to the CUP", x.joins(0, 9), 8);
        D.due("6: no such house", x.joins(2, 1), -1);
        D.due("6: house -1", x.joins(-1, 5), -1);
        D.due("6: next 10", x.joins(0, 10), -1);
        D.due("6: next -1", x.joins(0, -1), -1);
        D.due("6: next not greater", x.joins(1, 0), -3);
        D.due("6: next itself", x.joins(1, 1), -3);
        D.due("6: nothing changed", x.houseOf(0, 3), 9);
        D.due("6: -3 counted", x.count(13), 2);
        D.due("6: four to take back", x.count(8), 4);
    }

    private static void blocks() {
        Percolated x = Due.told("n10;n10;v005;");
        D.due("7: BLOCKED", x.blocks(0), 1);
        D.due("7: bits", x.count(3), 1);
        D.due("7: nothing leaves", x.hours(3), 0);
        D.due("7: it holds", x.houseOf(0, 2), 5);
        D.due("7: not BLOCKED", x.blocks(0), 0);
        D.due("7: all leaves", x.hours(1), 5);
        D.due("7: the other", x.blocks(1), 1);
        D.due("7: its bit", x.count(3), 2);
        D.due("7: no such house", x.blocks(2), -1);
        D.due("7: house -1", x.blocks(-1), -1);
    }

    private static void pours() {
        Percolated x = Due.told("n00;");
        D.due("8: nothing", x.pours(0, 0), 0);
        D.due("8: not WET by nothing", x.houseOf(0, 5), 0);
        D.due("8: one", x.pours(0, 1), 1);
        D.due("8: WET by one", x.houseOf(0, 5), 1);
        D.due("8: some more", x.pours(0, 59), 60);
        D.due("8: WET still", x.houseOf(0, 5), 1);
        D.due("8: 99 held", x.pours(0, 60), 99);
        D.due("8: v 99", x.pours(0, 99), 99);
        D.due("8: v -1", x.pours(0, -1), -4);
        D.due("8: v 100", x.pours(0, 100), -6);
        D.due("8: no such house", x.pours(1, -1), -1);
        D.due("8: house -1", x.pours(-1, 100), -1);
    }

    private static void empties() {
        Percolated x = Due.told("n10;v005;d01;");
        D.due("9: what it had", x.empties(), 5);
        D.due("9: empty", x.count(2), 0);
        D.due("9: nothing", x.empties(), 0);
    }

    private static void hours() {
        Percolated x = Due.told("n00;v010;");
        D.due("10: n 0", x.hours(0), -4);
        D.due("10: n 61", x.hours(61), -6);
        // 10 lets 5, then 5 lets 3, then 2 lets 1, then 1 lets 1: 1 more each.
        D.due("10: one", x.hours(1), 6);
        D.due("10: two more", x.hours(2), 6 + 4 + 2);
        D.due("10: HOUR", x.count(1), 3);
        D.due("10: all", x.hours(60), 14);
        D.due("10: HOUR though all is still", x.count(1), 63);
        for (int i = 0; i < 15; i++) {
            x.hours(60);
        }
        D.due("10: HOUR", x.count(1), 963);
        D.due("10: HOUR above 999", x.hours(37), -6);
        D.due("10: HOUR 999", x.hours(36), 14);
        D.due("10: no more", x.hours(1), -6);
        D.due("10: n -1 still -4", x.hours(-1), -4);
        D.due("10: the last HOUR", x.count(1), 999);
    }

    private static void hoursByNumbers() {
        Percolated x = Due.told("n11;n12;x01;v005;");
        D.due("10: down both in one HOUR", x.hours(1), 5 + 1 + 2);
        D.due("10: both WET", x.count(4), 3);
        Percolated y = Due.told("n11;n12;x01;v005;b1;");
        D.due("10: held up", y.hours(1), 0);
        D.due("10: below holds", y.houseOf(1, 2), 6);
        Percolated z = Due.told("n11;x01;v005;");
        D.due("10: NEXT not there is the CUP", z.hours(1), 6);
        Percolated later = Due.told("n11;x01;v005;n00;d01;");
        D.due("10: NEXT that came later", later.houseOf(1, 2), 3);
    }

    private static void hoursHeldAtMost() {
        Percolated x = Due.told("n19;n30;x01;v060;v150;d01;");
        D.due("10: 99 held", x.houseOf(1, 2), 99);
        D.due("10: the rest is lost", x.count(2), 0);
        Percolated y = Due.told("n19;n19;n19;n19;n19;n19;n19;n19;n19;");
        int most = 0;
        for (int i = 0; i < 12; i++) {
            for (int h = 0; h < 9; h++) {
                y.pours(h, 99);
            }
            most = y.hours(1);
        }
        D.due("10: 9999 held", most, 9999);
        D.due("10: nine times 108 ten times before", y.count(1), 12);
    }

    private static void back() {
        Percolated x = Due.told("n10;n00;");
        D.due("11: none", x.back(), -3);
        x.pours(0, 5);
        x.hours(7);
        x.blocks(1);
        x.joins(0, 1);
        x.pours(0, 0);
        D.due("11: five", x.count(8), 5);
        D.due("11: the pouring of nothing", x.back(), 4);
        D.due("11: the joining", x.back(), 3);
        D.due("11: NEXT", x.houseOf(0, 3), 9);
        D.due("11: still BLOCKED", x.count(3), 2);
        D.due("11: the blocking", x.back(), 2);
        D.due("11: not BLOCKED", x.count(3), 0);
        D.due("11: the CUP still", x.count(2), 5);
        D.due("11: the hours", x.back(), 1);
        D.due("11: HOUR", x.count(1), 0);
        D.due("11: the CUP", x.count(2), 0);
        D.due("11: what it held", x.houseOf(0, 2), 5);
        D.due("11: WET", x.count(4), 1);
        D.due("11: the pouring", x.back(), 0);
        D.due("11: not WET", x.count(4), 0);
        D.due("11: none is left", x.back(), -3);
        D.due("11: refused ones do not count", x.pours(0, 100) + x.joins(1, 0) + x.hours(0), -13);
        D.due("11: none", x.count(8), 0);
        for (int i = 1; i <= 10; i++) {
            x.pours(0, 1);
        }
        D.due("11: eight at most", x.count(8), 8);
        for (int i = 7; i >= 0; i--) {
            D.due("11: how many still", x.back(), i);
        }
        D.due("11: older ones no more", x.back(), -3);
        D.due("11: two stay", x.houseOf(0, 2), 2);
        x.pours(0, 9);
        D.due("11: one again", x.back(), 0);
        D.due("11: two again", x.houseOf(0, 2), 2);
    }

    private static void backForgotten() {
        Percolated x = Due.told("n10;");
        x.pours(0, 1);
        x.house(9, 0);
        D.due("11: house() refused leaves it", x.count(8), 1);
        x.restore();
        D.due("11: restore() refused leaves it", x.count(8), 1);
        Due.feed(x, "n");
        x.parish();
        D.due("11: a FAULT leaves it", x.count(8), 1);
        Due.feed(x, "v001;x00;");
        D.due("11: a FAULT of kind 2", x.parish(), -2005);
        D.due("11: leaves it", x.count(8), 1);
        D.due("11: and changes nothing", x.houseOf(0, 2), 1);
        x.image();
        D.due("11: image() leaves it", x.count(8), 1);
        x.house(0, 0);
        D.due("11: house() leaves none", x.back(), -3);
        x.pours(0, 1);
        x.empties();
        D.due("11: empties() leaves none", x.back(), -3);
        x.pours(0, 1);
        x.restore();
        D.due("11: restore() leaves none", x.back(), -3);
        x.pours(0, 1);
        Due.feed(x, "c;");
        x.parish();
        D.due("11: a PARISH leaves none", x.back(), -3);
    }

    private static void image() {
        Percolated x = Due.told("n13;n00;v007;b1;x08;d05;");
        Due.feed(x, "n0");
        Due.row(x, 1, 2);
        x.blocks(7);
        D.due("38: HOUR", x.image(), 5);
        x.house(5, 5);
        x.hours(9);
        x.blocks(0);
        x.blocks(1);
        x.joins(0, 1);
        x.pours(1, 50);
        x.empties();
        x.row(3);
        x.feed('0');
        x.blocks(7);
        D.due("39: HOUR", x.restore(), 5);
        D.due("39: HOUSES", x.count(0), 2);
        D.due("39: HOUR counted", x.count(1), 5);
        D.due("39: the CUP", x.count(2), 10);
        D.due("39: BLOCKED", x.count(3), 2);
        D.due("39: WET", x.count(4), 1);
        D.due("39: all HOLD", x.count(5), 0);
        D.due("39: NEXT", x.houseOf(0, 3), 8);
        D.due("39: KIND", x.houseOf(0, 0), 1);
        D.due("39: FIGURE", x.houseOf(0, 1), 3);
        D.due("39: letters stay", x.count(6), 3);
        D.due("39: the ROW stays", x.count(7), 3);
        D.due("39: REFUSALS stay", x.count(11), 2);
        x.pours(0, 9);
        D.due("39: once more", x.restore(), 5);
        D.due("39: all HOLD", x.count(5), 0);
        x.hours(10);
        D.due("38: another", x.image(), 15);
        D.due("39: the other", x.restore(), 15);
        D.due("39: no image", new Percolated().restore(), -3);
    }

    private static void count() {
        Percolated x = Due.told("n10;n00;n00;v107;v209;d02;b0;b2;");
        Due.feed(x, "abc");
        Due.row(x, 4, 5, 6, 7);
        x.blocks(1);
        x.hours(1);
        D.due("40: HOUSES", x.count(0), 3);
        D.due("40: HOUR", x.count(1), 3);
        D.due("40: the CUP", x.count(2), 7 - 1 + 2 + 9 - 2 + 2);
        D.due("40: BLOCKED", x.count(3), 7);
        D.due("40: WET", x.count(4), 6);
        D.due("40: all HOLD", x.count(5), 3);
        D.due("40: letters", x.count(6), 3);
        D.due("40: in the ROW", x.count(7), 4);
        D.due("40: to take back", x.count(8), 2);
        x.blocks(9);
        x.drip(3);
        x.restore();
        x.row(-1);
        x.row(100);
        x.row(100);
        D.due("40: -1", x.count(11), 1);
        D.due("40: -2", x.count(12), 1);
        D.due("40: -3", x.count(13), 1);
        D.due("40: -4", x.count(14), 1);
        D.due("40: -5", x.count(15), 0);
        D.due("40: -6", x.count(16), 2);
        int[] others = {-1, 9, 10, 17, Integer.MAX_VALUE, Integer.MIN_VALUE};
        for (int what : others) {
            D.due("40: another what", x.count(what), -9);
        }
        D.due("40: which is not refused", x.count(12), 1);
    }
}

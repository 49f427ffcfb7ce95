/** The edges of promises 4 to 11 and 38 to 40: houses, what changes them, what takes it back. */
public final class EdgesOfStateTest {
    private static final Due D = new Due();

    private EdgesOfStateTest() {
    }

    public static void main(String[] args) {
        let();
        houseOf();
        house();
        joins();
        blocks();
        pours();
        empties();
        hoursByTheClock();
        hoursOfLittle();
        hoursFull();
        hoursNext();
        back();
        backAtMostEight();
        backLeft();
        image();
        restore();
        countFull();
        countOther();
        D.endOfEdges("EdgesOfStateTest", 4, 5, 6, 7, 8, 9, 10, 11, 38, 39, 40);
    }

    private static void let() {
        int[][] cases = { // KIND, FIGURE, HOLDS, LET
            {0, 0, 0, 0}, {0, 0, 1, 1}, {0, 9, 2, 1}, {0, 9, 3, 2}, {0, 9, 98, 49}, {0, 9, 99, 50},
            {1, 0, 0, 0}, {1, 0, 1, 1}, {1, 9, 99, 99},
            {2, 0, 0, 0}, {2, 9, 1, 0}, {2, 9, 2, 1}, {2, 9, 3, 1}, {2, 9, 98, 49}, {2, 9, 99, 49},
            {3, 0, 99, 0}, {3, 9, 0, 0}, {3, 9, 8, 8}, {3, 9, 9, 9}, {3, 9, 10, 9}, {3, 9, 99, 9}, {3, 1, 99, 1},
            {4, 0, 0, 0}, {4, 0, 1, 1}, {4, 0, 99, 99}, {4, 9, 0, 0}, {4, 9, 8, 0}, {4, 9, 9, 0}, {4, 9, 10, 1},
            {4, 9, 99, 90},
            {5, 9, 0, 0}, {5, 9, 1, 0}, {5, 9, 3, 0}, {5, 0, 4, 1}, {5, 9, 5, 1}, {5, 9, 7, 1}, {5, 9, 8, 2},
            {5, 9, 98, 24}, {5, 9, 99, 24},
        };
        for (int[] c : cases) {
            Percolated x = new Percolated();
            x.house(c[0], c[1]);
            x.pours(0, c[2]);
            String name = "LET of KIND " + c[0] + " with FIGURE " + c[1] + " that HOLDS " + c[2];
            D.edge(4, name, x.houseOf(0, 6), c[3]);
            x.blocks(0);
            D.edge(4, name + ", BLOCKED", x.houseOf(0, 6), 0);
            x.blocks(0);
            x.hours(1);
            D.edge(10, name + ": an HOUR lets as much", x.houseOf(0, 2), c[2] - c[3]);
        }
    }

    private static void houseOf() {
        Percolated x = new Percolated();
        D.edge(4, "HOUSE 0 of none", x.houseOf(0, 0), -1);
        x.house(5, 9);
        int[] first = {5, 9, 0, 9, 0, 0, 0};
        for (int what = 0; what < first.length; what++) {
            D.edge(4, "at first, what " + what, x.houseOf(0, what), first[what]);
        }
        D.edge(4, "HOUSE 1 of one", x.houseOf(1, 0), -1);
        D.edge(4, "what -1", x.houseOf(0, -1), -2);
        D.edge(4, "what 7", x.houseOf(0, 7), -2);
        Percolated wet = Due.told("n10;n10;x01;v001;d01;");
        D.edge(4, "WET though empty again", wet.houseOf(0, 5), 1);
        D.edge(4, "WET by what went through within an HOUR", wet.houseOf(1, 5), 1);
        Percolated full = States.full();
        int[] last = {5, 9, 99, 9, 1, 1, 0};
        for (int what = 0; what < last.length; what++) {
            D.edge(4, "HOUSE 8 of nine, full, what " + what, full.houseOf(8, what), last[what]);
        }
        D.edge(4, "HOUSE 9 of nine", full.houseOf(9, 0), -1);
    }

    private static void house() {
        Percolated x = new Percolated();
        D.edge(5, "KIND -1", x.house(-1, 0), -2);
        D.edge(5, "KIND 6", x.house(6, 0), -2);
        D.edge(5, "FIGURE -1", x.house(0, -1), -4);
        D.edge(5, "FIGURE 10", x.house(0, 10), -6);
        D.edge(5, "KIND 0 and FIGURE 0, the least; the first", x.house(0, 0), 0);
        D.edge(5, "KIND 5 and FIGURE 9, the greatest", x.house(5, 9), 1);
        for (int i = 2; i < 8; i++) {
            x.house(i - 2, i);
        }
        D.edge(5, "the ninth", x.house(3, 3), 8);
        D.edge(5, "the tenth, full", x.house(3, 3), -6);
        D.edge(5, "nine there are", x.count(0), 9);
        Percolated late = new Percolated();
        States.toHour(late, 999);
        D.edge(5, "on HOUR 999", late.house(0, 0), 0);
    }

    private static void joins() {
        Percolated x = Due.told("n00;n00;n00;");
        D.edge(6, "NEXT one greater, the least", x.joins(1, 2), 9);
        D.edge(6, "NEXT 8, not there", x.joins(1, 8), 2);
        D.edge(6, "NEXT 9, the greatest", x.joins(1, 9), 8);
        D.edge(6, "NEXT as it was", x.joins(1, 9), 9);
        D.edge(6, "NEXT itself", x.joins(1, 1), -3);
        D.edge(6, "NEXT one less", x.joins(1, 0), -3);
        D.edge(6, "NEXT 10", x.joins(1, 10), -1);
        D.edge(6, "NEXT -1", x.joins(1, -1), -1);
        D.edge(6, "HOUSE 3 of three", x.joins(3, 4), -1);
        D.edge(6, "those refused leave NEXT", x.houseOf(1, 3), 9);
        Percolated nine = States.nine(0, 0);
        D.edge(6, "HOUSE 8 to 9", nine.joins(8, 9), 9);
        D.edge(6, "HOUSE 8 to 8", nine.joins(8, 8), -3);
        D.edge(6, "HOUSE 0 to 8", nine.joins(0, 8), 9);
        D.edge(6, "HOUSE 9 of nine", nine.joins(9, 9), -1);
        D.edge(6, "no HOUSES", new Percolated().joins(0, 1), -1);
    }

    private static void blocks() {
        Percolated x = States.nine(0, 0);
        D.edge(7, "the first", x.blocks(0), 1);
        D.edge(7, "its bit", x.count(3), 1);
        D.edge(7, "the last", x.blocks(8), 1);
        D.edge(7, "its bit, too", x.count(3), 257);
        D.edge(7, "HOUSE 9 of nine", x.blocks(9), -1);
        D.edge(7, "HOUSE -1", x.blocks(-1), -1);
        D.edge(7, "the last again", x.blocks(8), 0);
        D.edge(7, "its bit no more", x.count(3), 1);
        D.edge(7, "no HOUSES", new Percolated().blocks(0), -1);
    }

    private static void pours() {
        Percolated x = States.nine(0, 0);
        D.edge(8, "v 0, the least", x.pours(8, 0), 0);
        D.edge(8, "v 0 makes not WET", x.count(4), 0);
        D.edge(8, "v 1", x.pours(8, 1), 1);
        D.edge(8, "v 1 makes WET", x.count(4), 256);
        D.edge(8, "just 99", x.pours(8, 98), 99);
        D.edge(8, "99 held of 100", x.pours(8, 1), 99);
        D.edge(8, "v 99 into a full one", x.pours(8, 99), 99);
        D.edge(8, "v 0 into a full one", x.pours(8, 0), 99);
        D.edge(8, "v 0 leaves WET", x.count(4), 256);
        D.edge(8, "v 99, the greatest", x.pours(0, 99), 99);
        D.edge(8, "v -1", x.pours(1, -1), -4);
        D.edge(8, "v 100", x.pours(1, 100), -6);
        D.edge(8, "v -1 and 100 pour nothing", x.houseOf(1, 2), 0);
        D.edge(8, "HOUSE 9 of nine", x.pours(9, 1), -1);
        x.blocks(1);
        D.edge(8, "a BLOCKED one", x.pours(1, 5), 5);
        D.edge(8, "no HOUSES", new Percolated().pours(0, 1), -1);
    }

    private static void empties() {
        Percolated x = States.full();
        D.edge(9, "full", x.empties(), 9999);
        D.edge(9, "empty then", x.count(2), 0);
        D.edge(9, "empty", x.empties(), 0);
        D.edge(9, "the HOUSES stay full", x.count(5), 891);
        D.edge(9, "HOUR stays", x.count(1), 999);
        D.edge(9, "no HOUSES", new Percolated().empties(), 0);
    }

    private static void hoursByTheClock() {
        Percolated x = new Percolated();
        D.edge(10, "n 0", x.hours(0), -4);
        D.edge(10, "n 61", x.hours(61), -6);
        D.edge(10, "n 1, the least", x.hours(1), 0);
        D.edge(10, "HOUR 1", x.count(1), 1);
        D.edge(10, "n 60, the greatest", x.hours(60), 0);
        D.edge(10, "HOUR 61", x.count(1), 61);
        States.toHour(x, 940);
        D.edge(10, "HOUR 1000, above", x.hours(60), -6);
        D.edge(10, "HOUR 940 still", x.count(1), 940);
        D.edge(10, "HOUR 999", x.hours(59), 0);
        D.edge(10, "HOUR 999 is so", x.count(1), 999);
        D.edge(10, "HOUR 1000 by one", x.hours(1), -6);
        x.back();
        D.edge(10, "HOUR 940, taken back", x.count(1), 940);
        D.edge(10, "HOUR 999 again", x.hours(59), 0);
        Percolated still = States.nine(1, 9);
        still.hours(60);
        D.edge(10, "empty HOUSES: the CUP", still.count(2), 0);
        D.edge(10, "empty HOUSES: HOUR", still.count(1), 60);
        D.edge(10, "empty HOUSES: none WET", still.count(4), 0);
    }

    private static void hoursOfLittle() {
        int[][] cases = { // KIND, FIGURE, HOLDS, the CUP behind an HOUR
            {0, 9, 0, 0}, {0, 9, 1, 2}, {1, 9, 0, 0}, {1, 9, 1, 10}, {1, 0, 1, 1}, {2, 9, 1, 0}, {2, 9, 2, 4},
            {3, 0, 99, 0}, {3, 1, 99, 1}, {3, 9, 1, 1}, {4, 9, 9, 0}, {4, 9, 10, 5}, {4, 1, 2, 1}, {4, 0, 1, 1},
            {5, 9, 3, 0}, {5, 9, 4, 13}, {5, 0, 4, 4},
        };
        for (int[] c : cases) {
            Percolated x = new Percolated();
            x.house(c[0], c[1]);
            x.pours(0, c[2]);
            String name = "KIND " + c[0] + " with FIGURE " + c[1] + " that HOLDS " + c[2];
            D.edge(10, name + " adds only to something", x.hours(1), c[3]);
        }
        D.edge(10, "a MISS keeps 1", heldAtLast(2), 1);
        D.edge(10, "an INVALID keeps 3", heldAtLast(5), 3);
        D.edge(10, "a HOUSE keeps 0", heldAtLast(0), 0);
    }

    private static int heldAtLast(int kind) {
        Percolated x = new Percolated();
        x.house(kind, 9);
        x.pours(0, 99);
        x.hours(60);
        return x.houseOf(0, 2);
    }

    private static void hoursFull() {
        Percolated x = States.cupOf(9998);
        D.edge(10, "the CUP 9998", x.count(2), 9998);
        x.pours(0, 1);
        D.edge(10, "the CUP 9999, just full", x.hours(1), 9999);
        x.pours(0, 1);
        D.edge(10, "the CUP 9999 of 10000", x.hours(1), 9999);
        D.edge(10, "what the full CUP cannot hold has left", x.houseOf(0, 2), 0);
        Percolated less = States.cupOf(9998);
        less.pours(0, 99);
        D.edge(10, "the CUP 9999 of 10097", less.hours(1), 9999);
        Percolated two = Due.told("n10;n30;x01;v049;v150;");
        two.hours(1);
        D.edge(10, "99 held, just full", two.houseOf(1, 2), 99);
        two.pours(0, 1);
        two.hours(1);
        D.edge(10, "99 held of 100", two.houseOf(1, 2), 99);
        D.edge(10, "the one more has left", two.houseOf(0, 2), 0);
        D.edge(10, "and comes nowhere", two.count(2), 0);
        Percolated same = Due.told("n10;n10;x01;v050;v150;");
        D.edge(10, "99 held of 100 goes on within the HOUR", same.hours(1), 99);
        Percolated full = States.full();
        full.back();
        D.edge(10, "all full and BLOCKED, one HOUR too many", full.hours(1), -6);
    }

    private static void hoursNext() {
        Percolated x = Due.told("n10;x08;v005;");
        D.edge(10, "NEXT 8, not there: to the CUP", x.hours(1), 5);
        States.pourAll(x, 5);
        for (int i = 1; i < 8; i++) {
            x.house(3, 0);
        }
        D.edge(10, "NEXT 8, not there among eight: to the CUP", x.hours(1), 10);
        x.house(3, 0);
        x.pours(0, 5);
        D.edge(10, "NEXT 8, there now: not to the CUP", x.hours(1), 10);
        D.edge(10, "NEXT 8, there now: it HOLDS", x.houseOf(8, 2), 5);
        D.edge(10, "NEXT 8, there now: it is WET", x.houseOf(8, 5), 1);
        Percolated chain = States.nine(1, 1);
        for (int i = 0; i < 8; i++) {
            chain.joins(i, i + 1);
        }
        chain.pours(0, 1);
        D.edge(10, "through all nine within an HOUR", chain.hours(1), 10);
        D.edge(10, "all nine WET", chain.count(4), 511);
        Percolated stopped = States.nine(1, 1);
        States.pourAll(stopped, 1);
        States.blockAll(stopped);
        D.edge(10, "all nine BLOCKED", stopped.hours(60), 0);
        D.edge(10, "all nine HOLD what they held", stopped.count(5), 9);
    }

    private static void back() {
        Percolated x = new Percolated();
        D.edge(11, "none", x.back(), -3);
        x.house(1, 0);
        D.edge(11, "none behind house()", x.back(), -3);
        x.pours(0, 0);
        D.edge(11, "pours() that changed nothing counts", x.back(), 0);
        x.joins(0, 9);
        D.edge(11, "joins() that changed nothing counts", x.back(), 0);
        x.hours(1);
        D.edge(11, "hours() of nothing counts", x.back(), 0);
        D.edge(11, "hours() of nothing: HOUR", x.count(1), 0);
        x.pours(0, 99);
        x.pours(0, 99);
        D.edge(11, "pours() into a full one counts", x.back(), 1);
        D.edge(11, "pours() into a full one: full still", x.houseOf(0, 2), 99);
        D.edge(11, "the first", x.back(), 0);
        D.edge(11, "WET no more", x.houseOf(0, 5), 0);
        D.edge(11, "none left", x.back(), -3);
        x.pours(1, 0);
        x.pours(0, -1);
        x.pours(0, 100);
        x.joins(0, 0);
        x.joins(0, 10);
        x.blocks(1);
        x.hours(0);
        x.hours(61);
        D.edge(11, "those refused do not count", x.count(8), 0);
        D.edge(11, "those refused: none", x.back(), -3);
    }

    private static void backAtMostEight() {
        Percolated x = Due.told("n30;");
        for (int i = 0; i < 8; i++) {
            x.pours(0, 1);
        }
        D.edge(11, "eight", x.count(8), 8);
        for (int i = 7; i >= 0; i--) {
            D.edge(11, "of eight there are still", x.back(), i);
            D.edge(11, "of eight: HOLDS", x.houseOf(0, 2), i);
        }
        D.edge(11, "none of eight is left", x.back(), -3);
        for (int i = 0; i < 9; i++) {
            x.pours(0, 1);
        }
        D.edge(11, "nine are eight", x.count(8), 8);
        for (int i = 0; i < 8; i++) {
            x.back();
        }
        D.edge(11, "of nine the oldest is no more", x.back(), -3);
        D.edge(11, "of nine the oldest stays", x.houseOf(0, 2), 1);
        for (int i = 0; i < 21; i++) {
            x.pours(0, 1);
        }
        x.back();
        x.back();
        x.back();
        x.pours(0, 10);
        D.edge(11, "around: six", x.count(8), 6);
        D.edge(11, "around: the new one", x.back(), 5);
        D.edge(11, "around: without the new one", x.houseOf(0, 2), 19);
        for (int i = 4; i >= 0; i--) {
            D.edge(11, "around: an older one", x.back(), i);
        }
        D.edge(11, "around: none", x.back(), -3);
        D.edge(11, "around: the oldest that could be", x.houseOf(0, 2), 14);
    }

    private static void backLeft() {
        String[] leaves = {"house()", "empties()", "a PARISH", "restore()"};
        for (int call = 0; call < leaves.length; call++) {
            Percolated x = Due.told("n10;");
            x.image();
            for (int i = 0; i < 9; i++) {
                x.pours(0, 1);
            }
            leave(x, call);
            D.edge(11, leaves[call] + " leaves none", x.count(8), 0);
            D.edge(11, leaves[call] + ": none can be", x.back(), -3);
            x.pours(0, 1);
            D.edge(11, leaves[call] + ": what comes behind can be", x.back(), 0);
        }
        Percolated full = States.full();
        full.house(0, 0);
        D.edge(11, "house() that found no room leaves them", full.count(8), 8);
        Due.tell(full, "n00;");
        D.edge(11, "a PARISH that found no room leaves them", full.count(8), 8);
        Percolated x = Due.told("n10;");
        x.pours(0, 9);
        x.restore();
        D.edge(11, "restore() of no image leaves it", x.count(8), 1);
        x.parish();
        D.edge(11, "an empty text leaves it", x.count(8), 1);
        x.image();
        x.feed('c');
        x.row(1);
        x.judge();
        x.clear();
        D.edge(11, "image(), letters and the ROW leave it", x.back(), 0);
    }

    private static void leave(Percolated x, int call) {
        switch (call) {
            case 0:
                x.house(0, 0);
                break;
            case 1:
                x.empties();
                break;
            case 2:
                Due.tell(x, "c;");
                break;
            default:
                x.restore();
                break;
        }
    }

    private static void image() {
        Percolated x = new Percolated();
        D.edge(38, "no HOUSES", x.image(), 0);
        States.toHour(x, 999);
        D.edge(38, "HOUR 999", x.image(), 999);
        D.edge(38, "the later in the earlier one's place", x.restore(), 999);
        Percolated back = Due.told("n10;");
        back.pours(0, 5);
        back.image();
        back.back();
        D.edge(38, "it is not TAKEN BACK", back.restore() + back.houseOf(0, 2), 5);
    }

    private static void restore() {
        Percolated x = new Percolated();
        D.edge(39, "there is none", x.restore(), -3);
        x.image();
        x.house(1, 0);
        x.pours(0, 9);
        x.hours(9);
        D.edge(39, "of no HOUSES", x.restore(), 0);
        D.edge(39, "no HOUSES then", x.houseOf(0, 0), -1);
        D.edge(39, "the CUP empty then", x.count(2), 0);
        D.edge(39, "none WET then", x.count(4), 0);
        D.edge(39, "a HOUSE is new again", x.house(2, 2) + x.houseOf(0, 5) + x.houseOf(0, 2), 0);
        D.edge(39, "as often as one likes", x.restore(), 0);
        Percolated full = States.full();
        full.image();
        Percolated twin = States.full();
        String before = States.seen(full).replaceFirst(" 8 house", " 0 house");
        States.blockAll(full);
        full.back();
        full.empties();
        full.joins(0, 4);
        D.edge(39, "full", full.restore(), 999);
        D.same(39, "full: all is as it was, none to take back", States.seen(full), before);
        D.edge(39, "full: nothing can be TAKEN BACK", full.back(), -3);
        D.edge(39, "another image elsewhere", twin.restore(), 300);
        Percolated kept = States.brim();
        kept.feed(0);
        int refused = kept.count(16);
        kept.restore();
        D.edge(39, "the letters stay", kept.count(6), 96);
        D.edge(39, "the ROW stays", kept.count(7), 12);
        D.edge(39, "REFUSALS stay", kept.count(16), refused);
    }

    private static void countFull() {
        Percolated full = States.full();
        Due.feed(full, "c;".repeat(48));
        Due.row(full, 0, 1, 2, 3, 4, 5, 6, 7, 8, 9, 10, 11);
        int[] most = {9, 999, 9999, 511, 511, 891, 96, 12, 8};
        Percolated none = new Percolated();
        for (int what = 0; what < most.length; what++) {
            D.edge(40, "full, what " + what, full.count(what), most[what]);
            D.edge(40, "empty, what " + what, none.count(what), 0);
        }
    }

    private static void countOther() {
        Percolated x = new Percolated();
        for (int what : new int[] {Integer.MIN_VALUE, -11, -1, 9, 10, 17, 18, 100, Integer.MAX_VALUE}) {
            D.edge(40, "another what, " + what, x.count(what), -9);
        }
        for (int i = 0; i < 3; i++) {
            x.blocks(0);
        }
        x.drip(3);
        x.back();
        x.back();
        x.row(-1);
        for (int i = 0; i < 4; i++) {
            x.row(100);
        }
        int[] refused = {3, 1, 2, 1, 0, 4};
        for (int i = 0; i < refused.length; i++) {
            D.edge(40, "REFUSALS " + (-1 - i), x.count(11 + i), refused[i]);
        }
    }
}

/** The edges of promises 12 to 21: what would be, hours on, and what would change it. */
public final class EdgesOfMindTest {
    private static final Due D = new Due();

    private EdgesOfMindTest() {
    }

    public static void main(String[] args) {
        holdsIn();
        then();
        firstDrip();
        dry();
        settled();
        reaches();
        pour();
        least();
        clearing();
        stop();
        join();
        way();
        D.endOfEdges("EdgesOfMindTest", 12, 13, 14, 15, 16, 17, 18, 19, 20, 21);
    }

    /** One that gives one an hour and adds nothing. */
    private static Percolated slow(int v) {
        return Due.told("n31;v0" + v / 10 + v % 10 + ";");
    }

    private static void holdsIn() {
        Percolated x = slow(99);
        D.edge(12, "n 0: now", x.holdsIn(0, 0), 99);
        D.edge(12, "n 1", x.holdsIn(0, 1), 98);
        D.edge(12, "n 60, the greatest", x.holdsIn(0, 60), 39);
        D.edge(12, "n -1", x.holdsIn(0, -1), -4);
        D.edge(12, "n 61", x.holdsIn(0, 61), -6);
        D.edge(12, "HOUSE 1 of one", x.holdsIn(1, 0), -1);
        D.edge(12, "no HOUSES", new Percolated().holdsIn(0, 0), -1);
        States.toHour(x, 999);
        x.pours(0, 99);
        D.edge(12, "on HOUR 999 hours go on in mind", x.holdsIn(0, 60), 39);
        D.edge(12, "on HOUR 999 they do in mind alone", x.count(1), 999);
        Percolated full = States.full();
        D.edge(12, "full and BLOCKED", full.holdsIn(8, 60), 99);
        Percolated two = Due.told("n19;n30;x01;v090;v150;");
        D.edge(12, "99 held", two.holdsIn(1, 60), 99);
    }

    private static void then() {
        Percolated none = new Percolated();
        D.edge(13, "no HOUSES: the CUP", none.then(60, 0), 0);
        D.edge(13, "no HOUSES: all HOLD", none.then(0, 1), 0);
        Percolated x = slow(99);
        D.edge(13, "n 0: the CUP now", x.then(0, 0), 0);
        D.edge(13, "n 0: all HOLD now", x.then(0, 1), 99);
        D.edge(13, "n 60, the greatest: the CUP", x.then(60, 0), 60);
        D.edge(13, "n 60, the greatest: all HOLD", x.then(60, 1), 39);
        D.edge(13, "n -1", x.then(-1, 0), -4);
        D.edge(13, "n 61", x.then(61, 0), -6);
        D.edge(13, "what -1", x.then(0, -1), -2);
        D.edge(13, "what 2", x.then(0, 2), -2);
        D.edge(13, "the CUP stays", x.count(2), 0);
        Percolated full = States.full();
        D.edge(13, "full: all HOLD", full.then(60, 1), 891);
        States.blockAll(full);
        D.edge(13, "full: 9999 held", full.then(60, 0), 9999);
    }

    private static void firstDrip() {
        D.edge(14, "FIRST DRIP, no HOUSES", new Percolated().drip(0), -9);
        D.edge(14, "FIRST DRIP, empty HOUSES", States.nine(1, 9).drip(0), -9);
        D.edge(14, "FIRST DRIP, not of what the CUP has now", States.cupOf(5).drip(0), -9);
        D.edge(14, "FIRST DRIP behind one", slow(1).drip(0), 1);
        Percolated full = States.full();
        States.blockAll(full);
        D.edge(14, "FIRST DRIP, the CUP is full", full.drip(0), -9);
        full.empties();
        D.edge(14, "FIRST DRIP, the CUP was full", full.drip(0), 1);
        Percolated stopped = Due.told("n31;n30;x01;v099;");
        D.edge(14, "FIRST DRIP, never", stopped.drip(0), -9);
        // Each SEXTON keeps nine, each PUMP gives one an hour: 10, 19, 28 and 37 hours on; the last
        // SEXTON gets five an hour. No nine houses wait much longer, so that 60 is never the answer.
        Percolated late = Due.told("n31;n49;n31;n49;n31;n49;n31;n49;n49;x01;x12;x23;");
        Due.tell(late, "x34;x45;x56;x67;x78;v099;");
        D.edge(14, "FIRST DRIP, late", late.drip(0), 38);
        D.edge(14, "what -1", late.drip(-1), -2);
        D.edge(14, "what 3", late.drip(3), -2);
    }

    private static void dry() {
        D.edge(14, "DRY, no HOUSES", new Percolated().drip(1), 0);
        D.edge(14, "DRY, empty HOUSES", States.nine(0, 0).drip(1), 0);
        D.edge(14, "DRY behind one", slow(1).drip(1), 1);
        D.edge(14, "DRY behind 60, the greatest", slow(60).drip(1), 60);
        D.edge(14, "DRY behind 61, too late", slow(61).drip(1), -9);
        D.edge(14, "DRY, full and BLOCKED", States.full().drip(1), -9);
        D.edge(14, "DRY, what a MISS keeps", Due.told("n20;v001;").drip(1), -9);
    }

    private static void settled() {
        D.edge(14, "SETTLED, no HOUSES", new Percolated().drip(2), 0);
        D.edge(14, "SETTLED, full and BLOCKED", States.full().drip(2), 0);
        D.edge(14, "SETTLED behind one", slow(1).drip(2), 1);
        D.edge(14, "SETTLED behind 50, the greatest", slow(50).drip(2), 50);
        D.edge(14, "SETTLED behind 51, too late", slow(51).drip(2), -9);
        D.edge(14, "SETTLED, what a MISS keeps", Due.told("n20;v001;").drip(2), 0);
        Percolated full = States.cupOf(9999);
        full.pours(0, 1);
        D.edge(14, "SETTLED, the CUP is full, a HOUSE is not", full.drip(2), 1);
    }

    private static void reaches() {
        Percolated x = Due.told("n31;n30;x01;v099;");
        D.edge(15, "v 99, the greatest, at once", x.reaches(0, 99), 0);
        D.edge(15, "v 1, the least, behind one", x.reaches(1, 1), 1);
        D.edge(15, "v 60 behind 60, the greatest", x.reaches(1, 60), 60);
        D.edge(15, "v 61 behind 61, too late", x.reaches(1, 61), -9);
        D.edge(15, "v 0", x.reaches(1, 0), -4);
        D.edge(15, "v 100", x.reaches(1, 100), -6);
        D.edge(15, "HOUSE 2 of two", x.reaches(2, 1), -1);
        D.edge(15, "no HOUSES", new Percolated().reaches(0, 1), -1);
        D.edge(15, "an empty HOUSE", States.nine(0, 0).reaches(8, 1), -9);
        Percolated two = Due.told("n19;n30;x01;v080;v150;");
        D.edge(15, "v 99 by 99 held of 139", two.reaches(1, 99), 1);
        D.edge(15, "v 50 that it HOLDS now", two.reaches(1, 50), 0);
        D.edge(15, "v 51", two.reaches(1, 51), 1);
    }

    private static void pour() {
        Percolated none = new Percolated();
        D.edge(16, "no HOUSES: the HOUSE", none.pour(1, 60, 0), -9);
        D.edge(16, "no HOUSES: how much", none.pour(99, 0, 1), -9);
        Percolated x = Due.told("n30;n10;n10;");
        D.edge(16, "v 1, the least: the least of two", x.pour(1, 1, 0), 1);
        D.edge(16, "v 1, the least: how much", x.pour(1, 1, 1), 1);
        D.edge(16, "v 99, the greatest: how much", x.pour(99, 60, 1), 99);
        D.edge(16, "n 0: the least of all", x.pour(99, 0, 0), 0);
        D.edge(16, "n 0: how much", x.pour(99, 0, 1), 0);
        D.edge(16, "v 0", x.pour(0, 0, 0), -4);
        D.edge(16, "n -1", x.pour(1, -1, 0), -4);
        D.edge(16, "v 100", x.pour(100, 0, 0), -6);
        D.edge(16, "n 61", x.pour(1, 61, 0), -6);
        D.edge(16, "what -1", x.pour(1, 0, -1), -2);
        D.edge(16, "what 2", x.pour(1, 0, 2), -2);
        Percolated slow = Due.told("n30;n31;");
        D.edge(16, "n 60, the greatest: the HOUSE", slow.pour(99, 60, 0), 1);
        D.edge(16, "n 60, the greatest: how much", slow.pour(99, 60, 1), 60);
        D.edge(16, "n 59: how much", slow.pour(99, 59, 1), 59);
        D.edge(16, "the last of nine", eightThatGiveNothing(1, 0).pour(1, 1, 0), 8);
        Percolated held = Due.told("n10;n10;v099;b1;v198;");
        D.edge(16, "99 held: no more by pouring", held.pour(99, 60, 1), 99);
        Percolated full = States.full();
        D.edge(16, "the CUP is full: the least of all", full.pour(99, 60, 0), 0);
        D.edge(16, "the CUP is full: how much", full.pour(99, 60, 1), 9999);
        D.edge(16, "nothing is POURED", x.count(5), 0);
    }

    /** PUMPs with FIGURE 0, and one more below them. */
    private static Percolated eightThatGiveNothing(int kind, int figure) {
        Percolated x = new Percolated();
        for (int i = 0; i < 8; i++) {
            x.house(3, 0);
        }
        x.house(kind, figure);
        return x;
    }

    private static void least() {
        D.edge(17, "no HOUSES, w 0", new Percolated().least(0, 60), -9);
        D.edge(17, "no HOUSES, w 999", new Percolated().least(999, 0), -9);
        Percolated x = Due.told("n10;");
        D.edge(17, "w 0, the least", x.least(0, 0), 0);
        D.edge(17, "n 0, w 1", x.least(1, 0), -9);
        D.edge(17, "v 1", x.least(1, 1), 1);
        D.edge(17, "v 99, the greatest", x.least(99, 1), 99);
        D.edge(17, "v 100, too much", x.least(100, 1), -9);
        D.edge(17, "w -1", x.least(-1, 0), -4);
        D.edge(17, "n -1", x.least(0, -1), -4);
        D.edge(17, "w 1000", x.least(1000, 0), -6);
        D.edge(17, "n 61", x.least(0, 61), -6);
        Percolated slow = Due.told("n31;");
        D.edge(17, "n 60, the greatest", slow.least(60, 60), 60);
        D.edge(17, "n 60, one too much", slow.least(61, 60), -9);
        Percolated full = Due.told("n30;v099;n10;");
        D.edge(17, "HOUSE 0 is full", full.least(1, 60), -9);
        D.edge(17, "the CUP has 999, the greatest w", States.cupOf(999).least(999, 0), 0);
        D.edge(17, "the CUP has 998", States.cupOf(998).least(999, 1), 1);
        D.edge(17, "the CUP has 900", States.cupOf(900).least(999, 1), 99);
        D.edge(17, "the CUP has 899", States.cupOf(899).least(999, 1), -9);
    }

    private static void clearing() {
        D.edge(18, "no HOUSES", new Percolated().clearing(60), 0);
        D.edge(18, "none BLOCKED", Due.told("n10;v009;").clearing(60), 0);
        Percolated nine = States.nine(1, 0);
        States.pourAll(nine, 1);
        States.blockAll(nine);
        D.edge(18, "all nine BLOCKED, n 0", nine.clearing(0), 0);
        D.edge(18, "all nine BLOCKED, n 1", nine.clearing(1), 511);
        D.edge(18, "all nine BLOCKED, n 60, the greatest", nine.clearing(60), 511);
        D.edge(18, "n -1", nine.clearing(-1), -4);
        D.edge(18, "n 61", nine.clearing(61), -6);
        D.edge(18, "nothing is cleared", nine.count(3), 511);
        Percolated empty = States.nine(1, 9);
        States.blockAll(empty);
        D.edge(18, "all nine empty", empty.clearing(60), 0);
        D.edge(18, "the CUP is full", States.full().clearing(60), 0);
        Percolated last = States.nine(1, 0);
        last.pours(8, 1);
        States.blockAll(last);
        D.edge(18, "the last alone", last.clearing(1), 256);
        Percolated idle = Due.told("n10;n10;n10;v005;v105;b0;b1;b2;");
        D.edge(18, "an empty one is not cleared", idle.clearing(1), 3);
        Percolated idleFirst = Due.told("n10;n10;n10;v105;v205;b0;b1;b2;");
        D.edge(18, "an empty one is not cleared, the first", idleFirst.clearing(60), 6);
        // Either of two lets the PUMP have its one; both are no better.
        Percolated alike = Due.told("n10;n10;n31;x02;x12;v001;v101;b0;b1;");
        D.edge(18, "of several the least", alike.clearing(1), 1);
        Percolated hourOn = Due.told("n10;n31;x01;v009;b0;v160;");
        D.edge(18, "as much behind 60 without it: the fewest", hourOn.clearing(60), 0);
        Percolated just = Due.told("n10;n31;x01;v009;b0;v159;");
        D.edge(18, "one more behind 60 with it", just.clearing(60), 1);
        D.edge(18, "as much behind 59 without it", just.clearing(59), 0);
    }

    private static void stop() {
        D.edge(19, "no HOUSES", new Percolated().stop(60), -9);
        Percolated x = Due.told("n10;n10;v005;v105;");
        D.edge(19, "n 0", x.stop(0), -9);
        D.edge(19, "of several the least", x.stop(1), 0);
        D.edge(19, "n 60, the greatest", x.stop(60), 0);
        D.edge(19, "n -1", x.stop(-1), -4);
        D.edge(19, "n 61", x.stop(61), -6);
        D.edge(19, "nothing is BLOCKED", x.count(3), 0);
        x.blocks(0);
        D.edge(19, "one BLOCKED already is none", x.stop(60), 1);
        x.blocks(1);
        D.edge(19, "all BLOCKED", x.stop(60), -9);
        D.edge(19, "empty HOUSES: none is less", States.nine(1, 9).stop(60), -9);
        Percolated last = States.nine(1, 9);
        last.pours(8, 1);
        D.edge(19, "the last of nine", last.stop(1), 8);
        Percolated full = States.full();
        States.blockAll(full);
        D.edge(19, "the CUP is full: none is less", full.stop(60), -9);
        Percolated hourOn = Due.told("n10;n31;x01;v009;v160;");
        D.edge(19, "behind 60 the PUMP alone is less", hourOn.stop(60), 1);
        Percolated just = Due.told("n10;n31;x01;v009;v151;");
        D.edge(19, "behind 60 the PUMP is still the worst", just.stop(60), 1);
        Percolated chain = Due.told("n10;n10;x01;v009;");
        D.edge(19, "two on one way are alike", chain.stop(60), 0);
    }

    private static void join() {
        D.edge(20, "no HOUSES", new Percolated().join(60), -9);
        D.edge(20, "one HOUSE has none but 9", Due.told("n10;v099;").join(60), -9);
        Percolated x = Due.told("n10;n19;v005;");
        D.edge(20, "n 0", x.join(0), -9);
        D.edge(20, "n 1", x.join(1), 1);
        D.edge(20, "n 60, the greatest", x.join(60), 1);
        D.edge(20, "n -1", x.join(-1), -4);
        D.edge(20, "n 61", x.join(61), -6);
        D.edge(20, "nothing is joined", x.houseOf(0, 3), 9);
        D.edge(20, "as much is not more", Due.told("n10;n10;v005;").join(60), -9);
        D.edge(20, "9 for one not there is no more", Due.told("n10;x08;v005;").join(60), -9);
        D.edge(20, "one not there is none", Due.told("n10;n30;v005;x01;").join(60), 9);
        String seven = "n30;n30;n30;n30;n30;n30;n30;";
        D.edge(20, "the last pair of two HOUSES", Due.told(seven + "n10;n19;v701;").join(1), 78);
        D.edge(20, "the last pair with 9", Due.told(seven + "n10;n30;v701;x78;").join(1), 79);
        D.edge(20, "of several the first HOUSE", Due.told("n10;n10;n19;v005;v105;").join(1), 2);
        D.edge(20, "of several the first NEXT", Due.told("n10;n19;n19;v005;").join(1), 1);
        Percolated full = States.full();
        States.blockAll(full);
        D.edge(20, "the CUP is full: none is more", full.join(60), -9);
    }

    private static void way() {
        D.edge(21, "no HOUSES", new Percolated().way(0, 0), -1);
        Percolated one = Due.told("n00;x08;");
        D.edge(21, "NEXT is not there: itself alone", one.way(0, 0), 1);
        D.edge(21, "NEXT is not there: its bit", one.way(0, 2), 1);
        D.edge(21, "none BLOCKED", one.way(0, 1), 0);
        D.edge(21, "HOUSE 1 of one", one.way(1, 0), -1);
        D.edge(21, "what -1", one.way(0, -1), -2);
        D.edge(21, "what 3", one.way(0, 3), -2);
        Percolated nine = States.nine(0, 0);
        for (int i = 0; i < 8; i++) {
            nine.joins(i, i + 1);
        }
        States.blockAll(nine);
        D.edge(21, "all nine", nine.way(0, 0), 9);
        D.edge(21, "all nine BLOCKED", nine.way(0, 1), 9);
        D.edge(21, "all nine bits", nine.way(0, 2), 511);
        D.edge(21, "the last: itself", nine.way(8, 0), 1);
        D.edge(21, "the last: itself BLOCKED", nine.way(8, 1), 1);
        D.edge(21, "the last: its bit", nine.way(8, 2), 256);
        D.edge(21, "HOUSE 9 of nine", nine.way(9, 0), -1);
        D.edge(21, "HOUSE -1", nine.way(-1, 0), -1);
    }
}

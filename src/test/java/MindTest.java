/** Promises 12 to 21: what would be, hours on, and what would change it. */
public final class MindTest {
    private static final Due D = new Due();

    public static void main(String[] args) {
        holdsInAndThen();
        drip();
        reaches();
        pour();
        least();
        clearing();
        stop();
        join();
        way();
        nothingChanges();
        D.end("MindTest");
    }

    private static void holdsInAndThen() {
        Percolated x = Due.told("n00;v010;");
        int[] held = {10, 5, 2, 1, 0, 0};
        int[] cup = {0, 6, 10, 12, 14, 14};
        for (int n = 0; n < held.length; n++) {
            D.due("12: holds", x.holdsIn(0, n), held[n]);
            D.due("13: the CUP", x.then(n, 0), cup[n]);
            D.due("13: all", x.then(n, 1), held[n]);
        }
        D.due("12: 60 on", x.holdsIn(0, 60), 0);
        D.due("13: 60 on", x.then(60, 0), 14);
        D.due("12: no house, n below", x.holdsIn(1, -1), -1);
        D.due("12: house -1", x.holdsIn(-1, 0), -1);
        D.due("12: n -1", x.holdsIn(0, -1), -4);
        D.due("12: n 61", x.holdsIn(0, 61), -6);
        D.due("13: n -1", x.then(-1, 7), -4);
        D.due("13: n 61", x.then(61, 7), -6);
        D.due("13: what -1", x.then(0, -1), -2);
        D.due("13: what 2", x.then(60, 2), -2);
        Percolated slow = Due.told("n31;v099;n30;v150;");
        D.due("12: one an hour", slow.holdsIn(0, 60), 39);
        D.due("13: two that hold", slow.then(60, 1), 89);
        Percolated late = Due.told("n31;v099;d60;d60;d60;d60;d60;d60;d60;d60;d60;d60;d60;d60;");
        late.hours(60);
        late.hours(60);
        late.hours(60);
        late.hours(60);
        late.hours(39);
        late.pours(0, 99);
        D.due("12: in mind the clock goes beyond 999", late.holdsIn(0, 60), 39);
    }

    private static void drip() {
        Percolated x = Due.told("n32;n50;x01;v020;");
        D.due("14: FIRST DRIP", x.drip(0), 2);
        x.hours(5);
        D.due("14: FIRST DRIP more than now", x.drip(0), 1);
        x.blocks(1);
        D.due("14: no DRIP", x.drip(0), -9);
        Percolated late = Due.told("n31;n45;x01;v099;");
        D.due("14: FIRST DRIP behind six", late.drip(0), 6);
        Percolated half = Due.told("n00;v010;");
        D.due("14: DRY", half.drip(1), 4);
        D.due("14: SETTLED", half.drip(2), 4);
        half.blocks(0);
        D.due("14: never DRY", half.drip(1), -9);
        D.due("14: SETTLED now", half.drip(2), 0);
        Percolated miss = Due.told("n20;v010;");
        D.due("14: a MISS keeps one", miss.drip(1), -9);
        D.due("14: a MISS settles", miss.drip(2), 4);
        D.due("14: DRY behind 60", Due.told("n31;v060;").drip(1), 60);
        D.due("14: not DRY behind 60", Due.told("n31;v061;").drip(1), -9);
        D.due("14: SETTLED behind 50", Due.told("n31;v050;").drip(2), 50);
        D.due("14: not SETTLED behind 50", Due.told("n31;v051;").drip(2), -9);
        D.due("14: DRY now", Due.told("n31;").drip(1), 0);
        D.due("14: what -1", x.drip(-1), -2);
        D.due("14: what 3", x.drip(3), -2);
        D.due("14: only what is refused counts", x.count(12), 2);
    }

    private static void reaches() {
        Percolated x = Due.told("n32;n30;x01;v020;");
        D.due("15: now", x.reaches(0, 20), 0);
        D.due("15: never", x.reaches(0, 21), -9);
        D.due("15: behind three", x.reaches(1, 5), 3);
        D.due("15: all of it", x.reaches(1, 20), 10);
        D.due("15: more than all", x.reaches(1, 21), -9);
        Percolated slow = Due.told("n31;n30;x01;v099;");
        D.due("15: behind 60", slow.reaches(1, 60), 60);
        D.due("15: not behind 60", slow.reaches(1, 61), -9);
        D.due("15: no house", x.reaches(2, 0), -1);
        D.due("15: house -1", x.reaches(-1, 100), -1);
        D.due("15: v 0", x.reaches(0, 0), -4);
        D.due("15: v 100", x.reaches(0, 100), -6);
        D.due("15: v 99", x.reaches(0, 99), -9);
        D.due("15: v 1", x.reaches(0, 1), 0);
    }

    private static void pour() {
        Percolated x = Due.told("n00;n12;n12;");
        D.due("16: the least of the best", x.pour(10, 1, 0), 1);
        D.due("16: how much", x.pour(10, 1, 1), 12);
        D.due("16: all alike", x.pour(10, 0, 0), 0);
        D.due("16: nothing", x.pour(10, 0, 1), 0);
        D.due("16: later the HOUSE", x.pour(99, 20, 0), 0);
        Percolated full = Due.told("n10;n10;v095;b1;");
        D.due("16: 99 held", full.pour(50, 1, 1), 99);
        D.due("16: with what was in the CUP", Due.told("n10;v005;d01;").pour(3, 1, 1), 8);
        Percolated stopped = Due.told("n10;b0;n00;b1;");
        D.due("16: none flows: the least", stopped.pour(9, 9, 0), 0);
        D.due("16: v 0", x.pour(0, 61, 9), -4);
        D.due("16: n -1", x.pour(100, -1, 9), -4);
        D.due("16: v 100", x.pour(100, 0, 9), -6);
        D.due("16: n 61", x.pour(99, 61, 9), -6);
        D.due("16: what 2", x.pour(99, 60, 2), -2);
        D.due("16: what -1", x.pour(1, 0, -1), -2);
        D.due("16: no HOUSES", new Percolated().pour(1, 0, 0), -9);
        D.due("16: no HOUSES, how much", new Percolated().pour(1, 0, 1), -9);
        D.due("16: no HOUSES, v 0", new Percolated().pour(0, 0, 1), -4);
    }

    private static void least() {
        Percolated x = Due.told("n00;");
        D.due("17: nothing wanted", x.least(0, 5), 0);
        D.due("17: six", x.least(6, 1), 9);
        D.due("17: all", x.least(51, 1), 99);
        D.due("17: more than all", x.least(52, 1), -9);
        D.due("17: with what it holds", Due.told("n00;v003;").least(6, 1), 6);
        D.due("17: what the CUP has", Due.told("n10;v005;d01;").least(5, 0), 0);
        D.due("17: into HOUSE 0", Due.told("n30;n19;").least(1, 60), -9);
        D.due("17: w -1", x.least(-1, 61), -4);
        D.due("17: n -1", x.least(1000, -1), -4);
        D.due("17: w 1000", x.least(1000, 0), -6);
        D.due("17: n 61", x.least(0, 61), -6);
        D.due("17: w 999, n 60", x.least(999, 60), -9);
        D.due("17: no HOUSES", new Percolated().least(0, 0), -9);
        D.due("17: no HOUSES, w 1000", new Percolated().least(1000, 0), -6);
    }

    private static void clearing() {
        Percolated x = Due.told("n10;n10;n10;v005;v205;b0;b1;b2;");
        D.due("18: those that hold", x.clearing(1), 5);
        D.due("18: no hours, none", x.clearing(0), 0);
        Percolated chain = Due.told("n10;n10;n10;x01;x12;v005;b0;b2;");
        D.due("18: all on the way", chain.clearing(1), 5);
        Percolated narrow = Due.told("n10;n10;n33;x02;x12;v005;v105;b0;b1;");
        D.due("18: the least of several", narrow.clearing(1), 1);
        D.due("18: both in two hours", narrow.clearing(2), 3);
        Percolated last = Due.told("n10;n10;n33;x02;x12;v002;v105;b0;b1;");
        D.due("18: one is better than two", last.clearing(1), 2);
        D.due("18: none BLOCKED", Due.told("n10;v005;").clearing(9), 0);
        D.due("18: n -1", x.clearing(-1), -4);
        D.due("18: n 61", x.clearing(61), -6);
        D.due("18: n 60", x.clearing(60), 5);
        D.due("18: all stay BLOCKED", x.count(3), 7);
    }

    private static void stop() {
        Percolated x = Due.told("n10;n10;n10;x02;v003;v110;");
        x.least(999, 60);
        D.due("19: the worst", x.stop(1), 1);
        x.blocks(1);
        D.due("19: the least of two alike", x.stop(1), 0);
        x.blocks(0);
        D.due("19: none does it", x.stop(60), -9);
        D.due("19: no hours", Due.told("n10;v005;").stop(0), -9);
        D.due("19: n -1", x.stop(-1), -4);
        D.due("19: n 61", x.stop(61), -6);
        D.due("19: no HOUSES", new Percolated().stop(60), -9);
    }

    private static void join() {
        Percolated x = Due.told("n10;n19;v005;");
        x.least(999, 60);
        D.due("20: from now, not from what was thought", x.join(1), 1);
        D.due("20: by a CANON that adds", Due.told("n10;n19;v005;").join(1), 1);
        D.due("20: the first of two", Due.told("n10;n19;n19;v005;").join(1), 1);
        D.due("20: by the better", Due.told("n10;n18;n19;x12;v005;x09;").join(1), 1);
        D.due("20: by the best", Due.told("n10;n18;n19;v005;").join(1), 2);
        D.due("20: past one that stops", Due.told("n10;n30;x01;v005;").join(1), 9);
        D.due("20: a later HOUSE", Due.told("n10;n10;n30;x12;v105;").join(1), 19);
        D.due("20: nothing more", Due.told("n10;n30;v005;").join(60), -9);
        D.due("20: not there, so the CUP", Due.told("n10;x05;v005;").join(60), -9);
        D.due("20: no hours", Due.told("n10;n19;v005;").join(0), -9);
        D.due("20: no HOUSES", new Percolated().join(60), -9);
        D.due("20: n -1", new Percolated().join(-1), -4);
        D.due("20: n 61", new Percolated().join(61), -6);
    }

    private static void way() {
        Percolated x = Due.told("n00;n00;n00;n00;x02;x12;x23;x37;b2;b1;");
        D.due("21: how many", x.way(0, 0), 3);
        D.due("21: BLOCKED", x.way(0, 1), 1);
        D.due("21: itself BLOCKED, too", x.way(1, 1), 2);
        D.due("21: bits", x.way(0, 2), 13);
        D.due("21: bits", x.way(1, 2), 14);
        D.due("21: the last", x.way(3, 0), 1);
        D.due("21: none BLOCKED", x.way(3, 1), 0);
        D.due("21: its bit", x.way(3, 2), 8);
        Percolated nine = Due.told("n00;n00;n00;n00;n00;n00;n00;n00;n00;x01;x12;x23;x34;x45;");
        Due.feed(nine, "x56;x67;x78;");
        nine.parish();
        D.due("21: all nine", nine.way(0, 0), 9);
        D.due("21: all bits", nine.way(0, 2), 511);
        D.due("21: no house", x.way(4, 9), -1);
        D.due("21: house -1", x.way(-1, 0), -1);
        D.due("21: what -1", x.way(0, -1), -2);
        D.due("21: what 3", x.way(0, 3), -2);
    }

    private static void nothingChanges() {
        Percolated x = Due.told("n00;n12;n23;x01;v040;v209;b1;d02;v205;b2;");
        long before = told(x);
        x.holdsIn(0, 9);
        x.then(9, 0);
        x.drip(0);
        x.drip(1);
        x.drip(2);
        x.reaches(1, 99);
        x.pour(9, 9, 0);
        x.least(999, 60);
        x.clearing(9);
        x.stop(9);
        x.join(9);
        x.way(0, 0);
        Due.row(x, 1, 2);
        x.whichBlocked();
        x.wasPoured(0, 0);
        x.whatKind(0, 0);
        x.whatKind(0, 1);
        x.two(0, 1, 9);
        x.blocked(7, 2, 9, 0);
        x.strong(9);
        x.turn(0, 9);
        x.lots(9, 9, 0);
        x.fullest(4);
        D.due("12 to 37: what is only in mind stays there", told(x), before);
        D.due("12 to 37: and is not to be taken back", x.back(), -3);
    }

    private static long told(Percolated x) {
        long told = 0;
        for (int house = 0; house < 3; house++) {
            for (int what = 0; what <= 6; what++) {
                told = told * 101 + x.houseOf(house, what);
            }
        }
        for (int what = 0; what <= 5; what++) {
            told = told * 101 + x.count(what);
        }
        return told;
    }
}

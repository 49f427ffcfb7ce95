/** The edges of promises 28, 29 and 31 to 33: what the parish is like as it is. */
public final class EdgesOfSurveyTest {
    private static final Due D = new Due();

    private EdgesOfSurveyTest() {
    }

    public static void main(String[] args) {
        fullest();
        bits();
        deep();
        still();
        twins();
        into();
        strong();
        kinds();
        turn();
        D.endOfEdges("EdgesOfSurveyTest", 28, 29, 31, 32, 33);
    }

    private static void fullest() {
        Percolated none = new Percolated();
        int[] ofNone = {-9, 0, 0, 0, 60, 0};
        for (int what = 0; what <= 5; what++) {
            D.edge(28, "no HOUSES, what " + what, none.fullest(what), ofNone[what]);
        }
        D.edge(28, "what -1", none.fullest(-1), -2);
        D.edge(28, "what 6", none.fullest(6), -2);
        Percolated x = States.nine(0, 0);
        D.edge(28, "FULLEST of nine empty ones, the least", x.fullest(0), 0);
        x.pours(8, 1);
        D.edge(28, "FULLEST, the last", x.fullest(0), 8);
        x.pours(4, 1);
        D.edge(28, "FULLEST, of two the least", x.fullest(0), 4);
        D.edge(28, "FULLEST of nine full ones, the least", States.full().fullest(0), 0);
    }

    private static void bits() {
        Percolated x = States.nine(0, 0);
        D.edge(28, "PUMPS, all nine", x.fullest(1), 511);
        D.edge(28, "DRIES, all nine", x.fullest(2), 511);
        for (int i = 0; i < 8; i++) {
            x.joins(i, i + 1);
        }
        D.edge(28, "PUMPS, the last alone", x.fullest(1), 256);
        States.pourAll(x, 0);
        D.edge(28, "DRIES, nothing makes none WET", x.fullest(2), 511);
        x.pours(0, 1);
        D.edge(28, "DRIES, all but the first", x.fullest(2), 510);
        x.hours(60);
        D.edge(28, "DRIES, none", x.fullest(2), 0);
        D.edge(28, "DRIES, none though all are empty", x.count(5), 0);
        Percolated one = Due.told("n00;x01;");
        D.edge(28, "PUMPS, NEXT is not there", one.fullest(1), 1);
        one.house(0, 0);
        D.edge(28, "PUMPS, NEXT is there now", one.fullest(1), 2);
    }

    private static void deep() {
        Percolated x = States.nine(0, 0);
        D.edge(28, "DEEP, each to the CUP", x.fullest(3), 1);
        x.joins(7, 8);
        D.edge(28, "DEEP, the last two", x.fullest(3), 2);
        for (int i = 0; i < 7; i++) {
            x.joins(i, i + 1);
        }
        D.edge(28, "DEEP, all nine", x.fullest(3), 9);
        D.edge(28, "DEEP, NEXT is not there", Due.told("n00;x08;").fullest(3), 1);
    }

    private static void still() {
        D.edge(28, "STILL, nine empty ones", States.nine(1, 9).fullest(4), 60);
        D.edge(28, "STILL, nine full and BLOCKED ones", States.full().fullest(4), 60);
        D.edge(28, "STILL, none of 60", Due.told("n31;v060;").fullest(4), 0);
        D.edge(28, "STILL, the last of 60", Due.told("n31;v059;").fullest(4), 1);
        D.edge(28, "STILL, all but the first", Due.told("n31;v001;").fullest(4), 59);
        // Ten hours until the SEXTON gives, and what follows the 60 HOURS does not count.
        Percolated before = Due.told("n31;n49;x01;v099;");
        D.edge(28, "STILL, the first nine", before.fullest(4), 9);
        Percolated between = Due.told("n31;n49;n10;x01;v060;v201;");
        D.edge(28, "STILL, eight between", between.fullest(4), 8);
        Percolated full = States.cupOf(9999);
        full.pours(0, 1);
        D.edge(28, "STILL, what comes to a full CUP comes", full.fullest(4), 59);
    }

    private static void twins() {
        D.edge(28, "TWINS, one alone", Due.told("n00;").fullest(5), 0);
        D.edge(28, "TWINS, nine empty ones", States.nine(0, 0).fullest(5), 36);
        D.edge(28, "TWINS, nine full ones", States.full().fullest(5), 36);
        Percolated x = States.nine(0, 0);
        for (int i = 0; i < 9; i++) {
            x.pours(i, i);
        }
        D.edge(28, "TWINS, none alike", x.fullest(5), 0);
        x.pours(0, 8);
        D.edge(28, "TWINS, the first and the last", x.fullest(5), 1);
    }

    private static void into() {
        D.edge(29, "no HOUSES", new Percolated().into(0), -1);
        Percolated x = States.nine(0, 0);
        D.edge(29, "none", x.into(8), 0);
        for (int i = 0; i < 8; i++) {
            x.joins(i, 8);
        }
        D.edge(29, "all eight others", x.into(8), 8);
        D.edge(29, "the first never has any", x.into(0), 0);
        D.edge(29, "HOUSE 9 of nine, the CUP", x.into(9), -1);
        D.edge(29, "HOUSE -1", x.into(-1), -1);
        Percolated early = Due.told("n00;x01;");
        D.edge(29, "HOUSE 1 is not there yet", early.into(1), -1);
        early.house(0, 0);
        D.edge(29, "HOUSE 1 is there now", early.into(1), 1);
        D.edge(29, "the first of two never has any", early.into(0), 0);
    }

    private static void strong() {
        D.edge(31, "no HOUSES", new Percolated().strong(60), 0);
        Percolated x = Due.told("n31;v099;b0;");
        D.edge(31, "n 0, the least", x.strong(0), 0);
        D.edge(31, "n 1", x.strong(1), 1);
        D.edge(31, "n 60, the greatest", x.strong(60), 60);
        D.edge(31, "n -1", x.strong(-1), 1000000004);
        D.edge(31, "n 61", x.strong(61), 1000000006);
        D.edge(31, "nothing is cleared", x.count(3), 1);
        x.blocks(0);
        D.edge(31, "none BLOCKED", x.strong(60), 0);
        D.edge(31, "the CUP is full", States.full().strong(60), 0);
        Percolated empty = States.nine(1, 9);
        States.blockAll(empty);
        D.edge(31, "empty ones", empty.strong(60), 0);
        States.pourAll(empty, 99);
        D.edge(31, "full ones", empty.strong(1), 9 * 108);
        // 9900 there are: what the CUP cannot hold is not more.
        Percolated cup = States.cupOf(9900);
        States.pourAll(cup, 99);
        States.blockAll(cup);
        D.edge(31, "the CUP gets full", cup.strong(1), 99);
    }

    private static void kinds() {
        Percolated none = new Percolated();
        Percolated misses = States.nine(2, 0);
        for (int kind = 0; kind <= 5; kind++) {
            D.edge(32, "no HOUSES, KIND " + kind, none.kinds(kind), 0);
            D.edge(32, "nine MISSES, KIND " + kind, misses.kinds(kind), kind == 2 ? 9 : 0);
        }
        D.edge(32, "KIND -1", none.kinds(-1), -2);
        D.edge(32, "KIND 6", none.kinds(6), -2);
    }

    private static void turn() {
        D.edge(33, "no HOUSES", new Percolated().turn(0, 0), -1);
        Percolated x = Due.told("n39;v099;");
        D.edge(33, "n 0: the least KIND", x.turn(0, 0), 0);
        D.edge(33, "n 1", x.turn(0, 1), 1);
        // Till 3 are left an INVALID gives for 14 hours, 12 each time besides.
        D.edge(33, "n 60, the greatest", x.turn(0, 60), 5);
        D.edge(33, "n -1", x.turn(0, -1), -4);
        D.edge(33, "n 61", x.turn(0, 61), -6);
        D.edge(33, "HOUSE 1 of one", x.turn(1, 0), -1);
        D.edge(33, "it keeps its KIND", x.houseOf(0, 0), 3);
        x.blocks(0);
        D.edge(33, "a BLOCKED one: the least KIND", x.turn(0, 60), 0);
        D.edge(33, "an empty one: the least KIND", States.nine(5, 9).turn(8, 60), 0);
        D.edge(33, "HOUSE 9 of nine", States.nine(5, 9).turn(9, 60), -1);
        Percolated full = States.full();
        States.blockAll(full);
        D.edge(33, "the CUP is full: the least KIND", full.turn(8, 60), 0);
        D.edge(33, "FIGURE 0: CANON and SEXTON alike, the least", Due.told("n40;v099;").turn(0, 1), 1);
    }
}

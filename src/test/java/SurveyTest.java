/** Promises 28, 29 and 31 to 33: what the parish is like as it is. */
public final class SurveyTest {
    private static final Due D = new Due();

    public static void main(String[] args) {
        fullest();
        still();
        into();
        strong();
        kinds();
        turn();
        D.end("SurveyTest");
    }

    private static void fullest() {
        Percolated x = Due.told("n00;n00;n00;n00;x01;x13;x27;v105;v305;");
        D.due("28: FULLEST, the least of two", x.fullest(0), 1);
        D.due("28: PUMPS", x.fullest(1), 12);
        D.due("28: DRIES", x.fullest(2), 5);
        D.due("28: DEEP", x.fullest(3), 3);
        D.due("28: TWINS", x.fullest(5), 2);
        x.pours(3, 1);
        D.due("28: FULLEST", x.fullest(0), 3);
        D.due("28: TWINS", x.fullest(5), 1);
        x.joins(2, 3);
        D.due("28: PUMPS", x.fullest(1), 8);
        x.joins(0, 4);
        D.due("28: PUMPS, HOUSE 0 by a NEXT not there", x.fullest(1), 9);
        x.joins(0, 2);
        D.due("28: DEEP still", x.fullest(3), 3);
        Percolated dry = Due.told("n00;n00;n00;");
        D.due("28: none HOLDS, the least", dry.fullest(0), 0);
        D.due("28: TWINS of three", dry.fullest(5), 3);
        D.due("28: DEEP of one each", dry.fullest(3), 1);
        D.due("28: what -1", x.fullest(-1), -2);
        D.due("28: what 6", x.fullest(6), -2);
        int[] none = {-9, 0, 0, 0, 60, 0};
        for (int what = 0; what <= 5; what++) {
            D.due("28: no HOUSES", new Percolated().fullest(what), none[what]);
        }
    }

    private static void still() {
        D.due("28: STILL all 60", Due.told("n00;").fullest(4), 60);
        D.due("28: STILL behind one", Due.told("n10;v005;").fullest(4), 59);
        // One an hour for 50 hours, then still for ten.
        D.due("28: STILL at the end", Due.told("n31;v050;").fullest(4), 10);
        D.due("28: never STILL", Due.told("n31;v099;").fullest(4), 0);
        Percolated again = Due.told("n10;v005;");
        again.then(60, 0);
        D.due("28: STILL from now, not from what was thought", again.fullest(4), 59);
        // One an hour comes to a SEXTON that keeps nine: the tenth goes on, and each behind it.
        D.due("28: STILL at the beginning", Due.told("n31;n49;x01;v060;").fullest(4), 9);
    }

    private static void into() {
        Percolated x = Due.told("n00;n00;n00;n00;x02;x12;x23;");
        D.due("29: none", x.into(0), 0);
        D.due("29: two", x.into(2), 2);
        D.due("29: one", x.into(3), 1);
        D.due("29: no house", x.into(4), -1);
        D.due("29: house -1", x.into(-1), -1);
        D.due("29: the CUP is no house", x.into(9), -1);
    }

    private static void strong() {
        Percolated x = Due.told("n11;v005;n12;v104;b0;");
        D.due("31: more by one", x.strong(1), 6);
        D.due("31: none at once", x.strong(0), 0);
        x.blocks(0);
        D.due("31: nothing BLOCKED", x.strong(60), 0);
        Percolated chain = Due.told("n10;n11;n12;x01;x12;v005;v105;b0;b2;");
        D.due("31: more by two", chain.strong(1), 13);
        D.due("31: they stay BLOCKED", chain.count(3), 5);
        D.due("31: no HOUSES", new Percolated().strong(60), 0);
        D.due("31: n -1", x.strong(-1), 1000000004L);
        D.due("31: n 61", x.strong(61), 1000000006L);
        D.due("31: -4 counted", x.count(14), 1);
        D.due("31: -6 counted", x.count(16), 1);
    }

    private static void kinds() {
        Percolated x = Due.told("n00;n10;n10;n50;n50;n50;");
        int[] due = {1, 2, 0, 0, 0, 3};
        for (int kind = 0; kind <= 5; kind++) {
            D.due("32: of kind " + kind, x.kinds(kind), due[kind]);
        }
        D.due("32: kind -1", x.kinds(-1), -2);
        D.due("32: kind 6", x.kinds(6), -2);
    }

    private static void turn() {
        Percolated x = Due.told("n04;v007;");
        D.due("33: a CANON at once", x.turn(0, 1), 1);
        D.due("33: no hours: the least", x.turn(0, 0), 0);
        Percolated none = Due.told("n20;v001;");
        D.due("33: HOUSE before CANON", none.turn(0, 1), 0);
        D.due("33: it stays a MISS", none.houseOf(0, 0), 2);
        // An INVALID gives little at a time, and so adds its 12 often.
        D.due("33: an INVALID", Due.told("n09;v099;").turn(0, 20), 5);
        D.due("33: no house", x.turn(1, -1), -1);
        D.due("33: house -1", x.turn(-1, 0), -1);
        D.due("33: n -1", x.turn(0, -1), -4);
        D.due("33: n 61", x.turn(0, 61), -6);
    }
}

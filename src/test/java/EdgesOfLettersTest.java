/** The edges of promises 1 to 3: a new object, letters, and the parish told in them. */
public final class EdgesOfLettersTest {
    private static final Due D = new Due();
    private static final String BEGINNINGS = "nxbvcd";
    private static final String DIGITS = "0123456789";

    private EdgesOfLettersTest() {
    }

    public static void main(String[] args) {
        newObject();
        feed();
        textsThatLack();
        everyLetterEverywhere();
        numbersOutOfRange();
        housesThatAreNotThere();
        nextThatIsNotGreater();
        hoursAndRoom();
        whichFault();
        nothingOrAll();
        fullOfLetters();
        D.endOfEdges("EdgesOfLettersTest", 1, 2, 3);
    }

    private static void newObject() {
        States.full();
        Percolated x = new Percolated();
        D.edge(1, "none of another object's HOUSES", x.count(0), 0);
        D.edge(1, "no HOUSES: HOUR 0", x.count(1), 0);
        D.edge(1, "no HOUSES: the CUP 0", x.count(2), 0);
        D.edge(1, "no HOUSES: none BLOCKED", x.count(3), 0);
        D.edge(1, "no HOUSES: none WET", x.count(4), 0);
        D.edge(1, "no HOUSES: all HOLD 0", x.count(5), 0);
        D.edge(1, "no letters", x.count(6), 0);
        D.edge(1, "no ROW", x.count(7), 0);
        D.edge(1, "nothing to be TAKEN BACK", x.count(8), 0);
        for (int what = 11; what <= 16; what++) {
            D.edge(1, "no REFUSALS " + (10 - what), x.count(what), 0);
        }
        D.edge(1, "no HOUSES: 60 HOURS go by", x.hours(60), 0);
        D.edge(1, "no HOUSES: HOUR all the same", x.count(1), 60);
        D.edge(1, "no HOUSES: the first", x.house(0, 0), 0);
    }

    private static void feed() {
        Percolated x = new Percolated();
        D.edge(2, "letter 0, the least", x.feed(0), 1);
        D.edge(2, "letter -1, below", x.feed(-1), -4);
        D.edge(2, "letter 255, the greatest", x.feed(255), 2);
        D.edge(2, "letter 256, above", x.feed(256), -6);
        D.edge(2, "those refused are no letters", x.feed(0), 3);
        for (int i = 4; i < 96; i++) {
            x.feed('c');
        }
        D.edge(2, "the 96th", x.feed('c'), 96);
        D.edge(2, "the 97th, full", x.feed('c'), -6);
        D.edge(2, "the 97th did not come", x.count(6), 96);
        x.parish();
        D.edge(2, "behind parish() there is room again", x.feed('c'), 1);
    }

    private static int tell(Percolated x, String letters) {
        return Due.tell(x, letters);
    }

    private static int tellNew(String letters) {
        return tell(new Percolated(), letters);
    }

    private static void textsThatLack() {
        D.edge(3, "empty: at least one STATEMENT", tellNew(""), -1000);
        String text = "n00;x01;b0;v000;c;d01;";
        for (int length = 1; length <= text.length(); length++) {
            String some = text.substring(0, length);
            if (!some.endsWith(";")) {
                D.edge(3, "something lacks at the end of '" + some + "'", tellNew(some), -1000 - length);
            }
        }
        D.edge(3, "nothing lacks", tellNew(text), 6);
        Percolated x = new Percolated();
        tell(x, "c;");
        D.edge(3, "empty: the letters before are no more", x.parish(), -1000);
        tell(x, "c");
        D.edge(3, "empty: the letters with a FAULT are no more", x.parish(), -1000);
    }

    /** Each of the 256 letters at each place of each statement, behind one that is as it must be. */
    private static void everyLetterEverywhere() {
        String[] statements = {"n00;", "x01;", "b0;", "v000;", "c;", "d01;"};
        for (String statement : statements) {
            for (int place = 0; place < statement.length(); place++) {
                for (int letter = 0; letter <= 255; letter++) {
                    String due = place == 0 ? BEGINNINGS : place < statement.length() - 1 ? DIGITS : ";";
                    Percolated x = new Percolated();
                    Due.feed(x, "n00;" + statement.substring(0, place));
                    x.feed(letter);
                    Due.feed(x, statement.substring(place + 1));
                    boolean kindOne = x.parish() == -1000 - 4 - place;
                    String edge = "letter " + letter + " at place " + (4 + place) + " of 'n00;" + statement + "'";
                    D.edge(3, edge, kindOne ? 1 : 0, due.indexOf(letter) < 0 ? 1 : 0);
                }
            }
        }
    }

    private static void numbersOutOfRange() {
        for (int kind = 0; kind <= 9; kind++) {
            D.edge(3, "KIND " + kind, tellNew("n" + kind + "0;"), kind <= 5 ? 1 : -2000);
        }
        for (int figure = 0; figure <= 9; figure++) {
            Percolated x = new Percolated();
            D.edge(3, "FIGURE " + figure, tell(x, "n1" + figure + ";"), 1);
            D.edge(3, "FIGURE " + figure + " is so", x.houseOf(0, 1), figure);
        }
        for (int hours = 0; hours <= 99; hours++) {
            String two = "" + hours / 10 + hours % 10;
            D.edge(3, "HOURS " + two, tellNew("d" + two + ";"), hours >= 1 && hours <= 60 ? 1 : -2000);
        }
        int[] pours = {0, 1, 9, 10, 98, 99};
        for (int v : pours) {
            Percolated x = new Percolated();
            D.edge(3, "v " + v, tell(x, "n00;v0" + v / 10 + v % 10 + ";"), 2);
            D.edge(3, "v " + v + " is held", x.houseOf(0, 2), v);
            D.edge(3, "v " + v + " makes WET or not", x.houseOf(0, 5), v > 0 ? 1 : 0);
        }
        Percolated x = Due.told("n00;v099;v001;");
        D.edge(3, "99 held of 100", x.houseOf(0, 2), 99);
    }

    private static void housesThatAreNotThere() {
        String[] forms = {"x#9;", "b#;", "v#01;"};
        for (String form : forms) {
            String name = "'" + form + "' of HOUSE ";
            D.edge(3, name + "0 of none", tellNew(form.replace('#', '0')), -2000);
            D.edge(3, name + "0 of one", tellNew("n00;" + form.replace('#', '0')), 2);
            D.edge(3, name + "1 of one", tellNew("n00;" + form.replace('#', '1')), -2004);
            D.edge(3, name + "9 of one", tellNew("n00;" + form.replace('#', '9')), -2004);
            D.edge(3, name + "0 ahead of its own", tellNew(form.replace('#', '0') + "n00;"), -2000);
            Percolated nine = States.nine(0, 0);
            D.edge(3, name + "8 of nine", tell(nine, form.replace('#', '8')), 1);
            D.edge(3, name + "9 of nine", tell(nine, form.replace('#', '9')), -2000);
            Percolated made = new Percolated();
            made.house(0, 0);
            D.edge(3, name + "0 that house() made", tell(made, form.replace('#', '0')), 1);
            D.edge(3, name + "1 behind one that house() made", tell(made, "n00;" + form.replace('#', '1')), 2);
        }
    }

    private static void nextThatIsNotGreater() {
        for (int house = 0; house <= 8; house++) {
            for (int next = 0; next <= 9; next++) {
                Percolated x = States.nine(0, 0);
                String edge = "NEXT " + next + " of HOUSE " + house;
                D.edge(3, edge, tell(x, "x" + house + next + ";"), next > house ? 1 : -2000);
                D.edge(3, edge + " then", x.houseOf(house, 3), next > house ? next : 9);
            }
        }
        Percolated x = new Percolated();
        D.edge(3, "NEXT that is not there yet", tell(x, "n00;x08;"), 2);
        D.edge(3, "NEXT that is not there yet is so", x.houseOf(0, 3), 8);
    }

    private static void hoursAndRoom() {
        Percolated x = new Percolated();
        States.toHour(x, 939);
        D.edge(3, "HOUR above 999 at the end", tell(x, "d01;d60;"), -2004);
        D.edge(3, "HOUR above 999: none goes by", x.count(1), 939);
        D.edge(3, "HOUR 999", tell(x, "d60;"), 1);
        D.edge(3, "HOUR 999 is so", x.count(1), 999);
        D.edge(3, "HOUR above 999 by one", tell(x, "d01;"), -2000);
        D.edge(3, "HOUR 999 forbids nothing else", tell(x, "n00;c;b0;v000;x01;"), 5);
        Percolated y = new Percolated();
        String nine = "n00;n11;n22;n33;n44;n55;n06;n17;n28;";
        D.edge(3, "nine HOUSES", tell(y, nine), 9);
        D.edge(3, "full: no room for one more", tell(y, "n00;"), -2000);
        D.edge(3, "full: no room in the midst", tell(y, "b0;n00;b1;"), -2003);
        D.edge(3, "full: nothing BLOCKED by it", y.count(3), 0);
        D.edge(3, "no room for a tenth", tellNew(nine + "n00;"), -2036);
        Percolated made = new Percolated();
        made.house(0, 0);
        D.edge(3, "no room for nine behind one", tell(made, nine), -2032);
        D.edge(3, "room for eight behind one", tell(made, nine.substring(4)), 8);
        Percolated empty = new Percolated();
        D.edge(3, "an empty CUP is emptied", tell(empty, "c;"), 1);
        Percolated cup = States.full();
        tell(cup, "c;");
        D.edge(3, "a full CUP is emptied", cup.count(2), 0);
    }

    private static void whichFault() {
        D.edge(3, "kind 2: the first of two", tellNew("n00;b1;b2;"), -2004);
        D.edge(3, "kind 2: the first letter, not the wrong one", tellNew("c;n00;x00;"), -2006);
        D.edge(3, "kind 1 goes ahead of kind 2", tellNew("b0;n60;c;!"), -1009);
        D.edge(3, "kind 1, something lacks, goes ahead of kind 2", tellNew("b0;c"), -1004);
        D.edge(3, "kind 1 in one that is of kind 2, too", tellNew("n6!;"), -1002);
        D.edge(3, "kind 1: the first of two", tellNew("c;!c!"), -1002);
        D.edge(3, "kind 2 at place 0", tellNew("d00;"), -2000);
        D.edge(3, "kind 1 at place 0", tellNew(";"), -1000);
        D.edge(3, "kind 2: BLOCKED ones and HOUSES without fault ahead of it", tellNew("n00;b0;b0;b0;x00;"), -2013);
    }

    private static void nothingOrAll() {
        String[] faults = {"", "n", "n00;v", "n00;c;b0;v001;d01;x09;b9;", "c;d60;n60;", "b0;x18;v199;d01;q"};
        for (String fault : faults) {
            Percolated x = States.lived();
            Percolated twin = States.lived();
            x.parish();
            twin.parish();
            Due.feed(x, fault);
            int answer = x.parish();
            D.edge(3, "'" + fault + "' has a FAULT", answer <= -1000 ? 1 : 0, 1);
            D.edge(3, "'" + fault + "': no letters left", x.count(6), 0);
            for (int what = 11; what <= 16; what++) {
                D.edge(3, "'" + fault + "': nothing is counted", x.count(what), twin.count(what));
            }
            D.same(3, "'" + fault + "': nothing of it comes", States.usedUp(x), States.usedUp(twin));
        }
        Percolated x = States.lived();
        x.parish();
        int row = x.count(7);
        D.edge(3, "without FAULT all of it comes", tell(x, "n19;v677;b6;x67;d01;c;"), 6);
        D.edge(3, "all: HOUSES", x.count(0), 7);
        D.edge(3, "all: HOLDS", x.houseOf(6, 2), 77);
        D.edge(3, "all: BLOCKED", x.houseOf(6, 4), 1);
        D.edge(3, "all: NEXT", x.houseOf(6, 3), 7);
        D.edge(3, "all: HOUR", x.count(1), 4);
        D.edge(3, "all: the CUP", x.count(2), 0);
        D.edge(3, "the ROW stays", x.count(7), row);
        D.edge(3, "the image stays", x.restore(), 2);
        Percolated blocked = new Percolated();
        blocked.house(0, 0);
        blocked.blocks(0);
        tell(blocked, "b0;");
        D.edge(3, "told again of one that blocks() BLOCKED", blocked.count(3), 0);
    }

    private static void fullOfLetters() {
        D.edge(3, "96 letters", tellNew("c;".repeat(48)), 48);
        D.edge(3, "96 letters: the last is wrong", tellNew("c;".repeat(47) + "cc"), -1095);
        D.edge(3, "96 letters: the last STATEMENT is of kind 2", tellNew("c;".repeat(46) + "n60;"), -2092);
        D.edge(3, "96 letters: the end lacks", tellNew("c;".repeat(46) + "v000;"), -1096);
        D.edge(3, "95 letters: the end lacks", tellNew("c;".repeat(47) + "c"), -1095);
        Percolated x = new Percolated();
        D.edge(3, "the 97th, refused, does not spoil 96", tell(x, "c;".repeat(48) + "!"), 48);
    }
}

/** Promises 2 and 3: letters, and the parish told in them. */
public final class LettersTest {
    private static final Due D = new Due();

    public static void main(String[] args) {
        feed();
        parish();
        letterFaults();
        statementFaults();
        fullLetters();
        D.end("LettersTest");
    }

    private static void feed() {
        Percolated x = new Percolated();
        D.due("2: letter -1", x.feed(-1), -4);
        D.due("2: letter 256", x.feed(256), -6);
        D.due("2: letter 0", x.feed(0), 1);
        D.due("2: letter 255", x.feed(255), 2);
        for (int i = 3; i <= 96; i++) {
            D.due("2: how many", x.feed('c'), i);
        }
        D.due("2: one more than 96", x.feed('c'), -6);
        D.due("2: letter -1 behind 96", x.feed(-1), -4);
        D.due("2: still 96", x.count(6), 96);
        D.due("2: -4 counted", x.count(14), 2);
        D.due("2: -6 counted", x.count(16), 2);
    }

    private static int tell(Percolated x, String letters) {
        Due.feed(x, letters);
        return x.parish();
    }

    private static void parish() {
        Percolated x = new Percolated();
        D.due("3: statements", tell(x, "n13;n00;x08;v012;d01;b1;c;v105;"), 8);
        D.due("3: letters are no more", x.count(6), 0);
        D.due("3: HOUSES", x.count(0), 2);
        D.due("3: KIND", x.houseOf(0, 0), 1);
        D.due("3: FIGURE", x.houseOf(0, 1), 3);
        D.due("3: NEXT", x.houseOf(0, 3), 8);
        D.due("3: HOUR", x.count(1), 1);
        D.due("3: the CUP was emptied", x.count(2), 0);
        D.due("3: BLOCKED", x.count(3), 2);
        D.due("3: HOLDS", x.houseOf(1, 2), 5);
        D.due("3: told again, not BLOCKED", tell(x, "b1;"), 1);
        D.due("3: no bits", x.count(3), 0);
        D.due("3: twice in one", tell(x, "b0;b0;b0;"), 3);
        D.due("3: BLOCKED", x.count(3), 1);
        D.due("3: 99 held", tell(x, "v199;v199;"), 2);
        D.due("3: HOLDS", x.houseOf(1, 2), 99);
        D.due("3: 60 HOURS", tell(x, "d60;"), 1);
        D.due("3: HOUR", x.count(1), 61);
        D.due("3: to the CUP", tell(x, "x09;"), 1);
        D.due("3: NEXT", x.houseOf(0, 3), 9);
        Percolated dry = Due.told("n00;v000;");
        D.due("3: not WET by nothing", dry.count(4), 0);
    }

    private static void letterFaults() {
        String[] texts = {
            "", "n", "n0", "n00", "n00;x", ";", " ", "N00;", "n00;;", "na0;", "n0a;", "n000;",
            "c;c", "c0;", "b;", "b0c;", "b00;", "v0;", "v00;", "v000", "v0000;", "d1;", "d001;",
            "x0;", "x019;", "c;q", "n00;\u00ffb0;", "n/0;", "n:0;", "n99;x00;c;b9c",
        };
        int[] places = {
            0, 1, 2, 3, 5, 0, 0, 0, 4, 1, 2, 3,
            3, 1, 1, 2, 2, 2, 3, 4, 4, 2, 3,
            2, 3, 2, 4, 1, 1, 12,
        };
        for (int i = 0; i < texts.length; i++) {
            Percolated x = new Percolated();
            D.due("3: kind 1 in '" + texts[i] + "'", tell(x, texts[i]), -1000 - places[i]);
            D.due("3: nothing came of '" + texts[i] + "'", x.count(0), 0);
            D.due("3: no letters left of '" + texts[i] + "'", x.count(6), 0);
        }
    }

    private static void statementFaults() {
        String[] texts = {
            "n60;", "n59;n90;", "x01;", "n00;x00;", "n00;n00;x10;", "n00;x19;", "b0;", "n00;b1;",
            "n00;b0;v100;", "v000;n00;", "n00;d00;", "d60;d61;", "d99;", "n00;b9;", "c;n00;x91;",
            "n00;n00;n00;n00;n00;n00;n00;n00;n00;b8;n00;", "b0;n00;x00;",
        };
        int[] places = {0, 4, 0, 4, 8, 4, 0, 4, 7, 0, 4, 4, 0, 4, 6, 39, 0};
        for (int i = 0; i < texts.length; i++) {
            Percolated x = new Percolated();
            D.due("3: kind 2 in '" + texts[i] + "'", tell(x, texts[i]), -2000 - places[i]);
            D.due("3: nothing came of '" + texts[i] + "'", x.count(0), 0);
            D.due("3: no HOUR of '" + texts[i] + "'", x.count(1), 0);
            D.due("3: no letters left of '" + texts[i] + "'", x.count(6), 0);
            for (int what = 11; what <= 16; what++) {
                D.due("3: nothing is counted", x.count(what), 0);
            }
        }
        Percolated x = Due.told("n00;d60;d60;d60;d60;d60;d60;d60;d60;d60;d60;d60;d60;d60;d60;d60;");
        D.due("3: HOUR 900", x.count(1), 900);
        D.due("3: HOUR above 999", tell(x, "d50;v005;d50;"), -2009);
        D.due("3: HOUR 900 still", x.count(1), 900);
        D.due("3: HOUR 999", tell(x, "d50;d49;"), 2);
        D.due("3: a house that is there", tell(x, "x01;b0;n00;n00;x12;"), 5);
    }

    private static void fullLetters() {
        StringBuilder text = new StringBuilder();
        for (int i = 0; i < 48; i++) {
            text.append("c;");
        }
        Percolated x = new Percolated();
        D.due("3: 96 letters", tell(x, text.toString()), 48);
        text.setCharAt(95, 'c');
        D.due("3: the last letter wrong", tell(x, text.toString()), -1095);
        text.setLength(92);
        D.due("3: 96 letters and one lacks", tell(x, text + "v000"), -1096);
        D.due("3: the 97th did not come", tell(x, text + "v000;"), -1096);
        D.due("3: which was refused", x.count(16), 1);
    }
}

/** Parishes that stand at an edge, and all that can be seen of one, told as a text. */
final class States {
    private States() {
    }

    /** Nine houses of one kind and figure. */
    static Percolated nine(int kind, int figure) {
        Percolated x = new Percolated();
        for (int i = 0; i < 9; i++) {
            x.house(kind, figure);
        }
        return x;
    }

    static void pourAll(Percolated x, int v) {
        int houses = x.count(0);
        for (int i = 0; i < houses; i++) {
            x.pours(i, v);
        }
    }

    static void blockAll(Percolated x) {
        int houses = x.count(0);
        for (int i = 0; i < houses; i++) {
            x.blocks(i);
        }
    }

    /** A cup of just so much (9999 at most) below nine empty CANONs with FIGURE 0. */
    static Percolated cupOf(int v) {
        Percolated x = nine(1, 0);
        int left = v;
        while (left > 0) {
            for (int i = 0; i < 9 && left > 0; i++) {
                int some = Math.min(99, left);
                x.pours(i, some);
                left -= some;
            }
            x.hours(1);
        }
        return x;
    }

    static void toHour(Percolated x, int hour) {
        int at = x.count(1);
        while (at < hour) {
            int n = Math.min(60, hour - at);
            x.hours(n);
            at += n;
        }
    }

    /** Six houses, one of each kind, 4 that can be taken back, an image, half a text and a row. */
    static Percolated lived() {
        Percolated x = Due.told("n03;n14;n25;n36;n47;n58;x02;x13;x25;v040;v150;v260;v370;v480;v590;d02;b1;b4;");
        x.image();
        x.pours(0, 7);
        x.blocks(2);
        x.joins(3, 8);
        x.hours(1);
        Due.feed(x, "c;d0");
        for (int i = 0; i < 6; i++) {
            x.row(x.houseOf(i, 2));
        }
        return x;
    }

    /** Nine houses that hold 99, all blocked, the cup full, the clock on 999, 8 to take back. */
    static Percolated full() {
        Percolated x = nine(5, 9);
        for (int i = 0; i < 5; i++) {
            pourAll(x, 99);
            x.hours(60);
        }
        x.image();
        toHour(x, 999);
        pourAll(x, 99);
        blockAll(x);
        return x;
    }

    /** Two houses, an image, one to take back, 96 letters that are a parish, and 12 numbers. */
    static Percolated brim() {
        Percolated x = Due.told("n14;n25;v009;v107;d01;v003;");
        x.image();
        x.pours(1, 5);
        for (int i = 0; i < 32; i++) {
            Due.feed(x, "b1;");
        }
        Due.row(x, x.houseOf(0, 2), x.houseOf(1, 2), 0, 1, 2, 3, 4, 5, 6, 7, 8, 9);
        return x;
    }

    /** What there is, by calls that change nothing. */
    static String seen(Percolated x) {
        StringBuilder s = new StringBuilder("counts");
        for (int what = 0; what <= 8; what++) {
            s.append(' ').append(x.count(what));
        }
        int houses = x.count(0);
        for (int i = 0; i < houses; i++) {
            s.append(" house");
            for (int what = 0; what <= 5; what++) {
                s.append(' ').append(x.houseOf(i, what));
            }
        }
        return s.toString();
    }

    /** A few counts alone, as an object is good for 512 calls. */
    private static String glanced(Percolated x) {
        return "at " + x.count(1) + " cup " + x.count(2) + " blocked " + x.count(3) + " wet " + x.count(4)
            + " hold " + x.count(5) + " fullest " + x.fullest(0) + " pumps " + x.fullest(1) + " then " + x.then(9, 0);
    }

    /** All that there is, the letters, the row, what can be taken back and the image too: it is used up. */
    static String usedUp(Percolated x) {
        StringBuilder s = new StringBuilder(seen(x));
        s.append("; which ").append(x.whichBlocked()).append(" judged ").append(x.judge());
        int left = x.count(8);
        for (int i = 0; i < left; i++) {
            s.append("; back ").append(x.back()).append(' ').append(glanced(x));
        }
        s.append("; parish ").append(x.parish()).append(' ').append(glanced(x));
        s.append("; restored ").append(x.restore()).append(' ').append(glanced(x));
        return s.toString();
    }
}

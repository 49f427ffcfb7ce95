import java.util.Random;

/** Many runs of 512 calls drawn from fixed seeds, each call asked of the class and of the model. */
public final class ModelTest {
    private static final int RUNS = 400;
    private static final int CALLS = 512;
    private static final int[] ODD_NUMBERS = {
        Integer.MIN_VALUE, -100, -2, -1, 0, 1, 2, 9, 10, 60, 61, 96, 99, 100, 255, 256, 999, 1000,
        65536, Integer.MAX_VALUE,
    };

    private final Due due;
    private final Random random;
    private final int run;
    private final Percolated x = new Percolated();
    private final PlainModel m = new PlainModel();

    private ModelTest(Due due, int run) {
        this.due = due;
        this.run = run;
        this.random = new Random(run);
    }

    public static void main(String[] args) {
        Due due = new Due();
        for (int run = 1; run <= RUNS; run++) {
            new ModelTest(due, run).live();
        }
        due.end("ModelTest");
    }

    /** Mostly a number from .. to, now and then one at or beyond an edge. */
    private int number(int from, int to) {
        int odds = random.nextInt(40);
        if (odds == 0) {
            return ODD_NUMBERS[random.nextInt(ODD_NUMBERS.length)];
        }
        if (odds == 1) {
            return random.nextBoolean() ? from - 1 : to + 1;
        }
        if (odds < 5) {
            return random.nextBoolean() ? from : to;
        }
        return from + random.nextInt(to - from + 1);
    }

    private int someHouse() {
        return number(0, Math.max(0, m.count(0) - 1));
    }

    private void live() {
        int calls = 0;
        while (calls < CALLS) {
            calls += random.nextInt(6) == 0 ? tellParish() : call();
        }
        for (int what = -1; what <= 17; what++) {
            due.due("run " + run + ": count(" + what + ")", x.count(what), m.count(what));
        }
    }

    private void same(String call, long got, long want) {
        due.due("run " + run + ": " + call, got, want);
    }

    private int tellParish() {
        StringBuilder text = new StringBuilder();
        int statements = random.nextInt(9);
        for (int i = 0; i < statements; i++) {
            text.append(statement());
        }
        if (random.nextInt(5) == 0 && text.length() > 0) {
            int at = random.nextInt(text.length());
            text.setCharAt(at, "nxbvcd;0123456789a/:\u00ff".charAt(random.nextInt(21)));
        }
        if (random.nextInt(12) == 0) {
            text.setLength(random.nextInt(text.length() + 1));
        }
        for (int i = 0; i < text.length(); i++) {
            same("feed(" + text.charAt(i) + ")", x.feed(text.charAt(i)), m.feed(text.charAt(i)));
        }
        same("parish() of " + text, x.parish(), m.parish());
        return text.length() + 1;
    }

    private int digit(int below) {
        return random.nextInt(12) == 0 ? random.nextInt(10) : random.nextInt(below);
    }

    private String statement() {
        int houses = Math.max(1, m.count(0));
        int house = digit(houses);
        switch (random.nextInt(m.count(0) < 4 ? 9 : 16)) {
            case 0: case 1: case 2: case 3: case 4:
                return "n" + digit(6) + random.nextInt(10) + ";";
            case 5:
                return "b" + house + ";";
            case 6: case 9: case 10: case 14:
                return "x" + house + (random.nextInt(8) == 0 ? random.nextInt(10)
                    : house + 1 > 9 ? 9 : house + 1 + random.nextInt(Math.min(9, houses + 1) - house > 0
                    ? Math.min(9, houses + 1) - house : 1)) + ";";
            case 7: case 11: case 12: case 13:
                return "v" + house + random.nextInt(10) + random.nextInt(10) + ";";
            case 8:
                return random.nextInt(6) == 0 ? "d" + digit(7) + random.nextInt(10) + ";"
                    : "d0" + random.nextInt(10) + ";";
            default:
                return "c;";
        }
    }

    /** A row that some change in mind would tell, so that there is something to be found. */
    private void tellRow() {
        same("clear()", x.clear(), m.clear());
        int length = number(1, 6);
        int shift = random.nextInt(4) == 0 ? random.nextInt(10) : 0;
        for (int i = 0; i < length && i < 13; i++) {
            int v = Math.min(99, m.then(Math.min(60, i), 0) + (i > 0 ? shift : 0));
            same("row(" + v + ")", x.row(v), m.row(v));
            x.then(Math.min(60, i), 0);
        }
    }

    private int call() {
        int h = someHouse();
        int g = someHouse();
        int n = number(0, 60);
        int few = number(0, 8);
        int what = number(0, 1);
        int what3 = number(0, 2);
        switch (random.nextInt(44)) {
            case 0: { int a = number(0, 255); same("feed(" + a + ")", x.feed(a), m.feed(a)); break; }
            case 1: { int a = number(0, 6); same("houseOf(" + h + ", " + a + ")", x.houseOf(h, a), m.houseOf(h, a)); break; }
            case 2: { int a = number(0, 5); int f = number(0, 9); same("house(" + a + ", " + f + ")", x.house(a, f), m.house(a, f)); break; }
            case 3: { int a = number(Math.min(9, Math.max(0, h + 1)), 9); same("joins(" + h + ", " + a + ")", x.joins(h, a), m.joins(h, a)); break; }
            case 4: same("blocks(" + h + ")", x.blocks(h), m.blocks(h)); break;
            case 5: case 40: { int a = number(0, 99); same("pours(" + h + ", " + a + ")", x.pours(h, a), m.pours(h, a)); break; }
            case 6: same("empties()", x.empties(), m.empties()); break;
            case 7: same("hours(" + few + ")", x.hours(few), m.hours(few)); break;
            case 8: case 41: same("back()", x.back(), m.back()); break;
            case 9: same("holdsIn(" + h + ", " + few + ")", x.holdsIn(h, few), m.holdsIn(h, few)); break;
            case 10: same("then(" + n + ", " + what + ")", x.then(n, what), m.then(n, what)); break;
            case 11: same("drip(" + what3 + ")", x.drip(what3), m.drip(what3)); break;
            case 12: { int a = number(1, 99); same("reaches(" + h + ", " + a + ")", x.reaches(h, a), m.reaches(h, a)); break; }
            case 13: { int a = number(1, 99); same("pour(" + a + ", " + few + ", " + what + ")", x.pour(a, few, what), m.pour(a, few, what)); break; }
            case 14: { int a = number(0, 150); same("least(" + a + ", " + few + ")", x.least(a, few), m.least(a, few)); break; }
            case 15: same("clearing(" + few + ")", x.clearing(few), m.clearing(few)); break;
            case 16: same("stop(" + few + ")", x.stop(few), m.stop(few)); break;
            case 17: same("join(" + few + ")", x.join(few), m.join(few)); break;
            case 18: same("way(" + h + ", " + what3 + ")", x.way(h, what3), m.way(h, what3)); break;
            case 19: case 42: tellRow(); same("whichBlocked()", x.whichBlocked(), m.whichBlocked()); break;
            case 20: same("wasPoured(" + h + ", " + what3 + ")", x.wasPoured(h, what3), m.wasPoured(h, what3)); break;
            case 21: same("whatKind(" + h + ", " + what + ")", x.whatKind(h, what), m.whatKind(h, what)); break;
            case 22: case 43: { int a = number(0, 30); same("two(" + h + ", " + g + ", " + a + ")", x.two(h, g, a), m.two(h, g, a)); break; }
            case 23: { int a = number(0, 7); int t = number(2, 20); int v = m.count(2) + random.nextInt(40);
                same("blocked(" + a + ", " + t + ", " + v + ", " + what + ")", x.blocked(a, t, v, what), m.blocked(a, t, v, what)); break; }
            case 24: { int a = number(1, 9); same("shares(" + a + ", " + what + ")", x.shares(a, what), m.shares(a, what)); break; }
            case 25: { int a = number(0, 5); same("fullest(" + a + ")", x.fullest(a), m.fullest(a)); break; }
            case 26: same("into(" + h + ")", x.into(h), m.into(h)); break;
            case 27: same("mean(" + what + ")", x.mean(what), m.mean(what)); break;
            case 28: same("strong(" + few + ")", x.strong(few), m.strong(few)); break;
            case 29: { int a = number(0, 5); same("kinds(" + a + ")", x.kinds(a), m.kinds(a)); break; }
            case 30: same("turn(" + h + ", " + few + ")", x.turn(h, few), m.turn(h, few)); break;
            case 31: { int a = number(0, 99); same("row(" + a + ")", x.row(a), m.row(a)); break; }
            case 32: { int a = m.houseOf(0, 2); x.houseOf(0, 2); same("row(" + a + ")", x.row(a), m.row(a)); break; }
            case 33: same("judge()", x.judge(), m.judge()); break;
            case 34: same("clear()", x.clear(), m.clear()); break;
            case 35: { int a = number(1, 20); int z = random.nextInt(); same("lots(" + a + ", " + z + ", " + what + ")", x.lots(a, z, what), m.lots(a, z, what)); break; }
            case 36: same("image()", x.image(), m.image()); break;
            case 37: if (random.nextInt(3) == 0) { same("restore()", x.restore(), m.restore()); } break;
            default: { int a = number(0, 17); same("count(" + a + ")", x.count(a), m.count(a)); break; }
        }
        return 1;
    }
}

import java.io.IOException;
import java.nio.file.Files;
import java.nio.file.Path;
import java.util.Set;
import java.util.TreeSet;
import java.util.function.Supplier;
import java.util.regex.Matcher;
import java.util.regex.Pattern;

/**
 * Every refusal that the document tells, at the number just beyond each edge and at the farthest,
 * in a new object, one that has lived, one that is full and one whose letters and row are: the
 * answer, that it alone is counted, and that nothing else changes. The last number that is not
 * refused, too.
 */
public final class RefusalsTest {
    private static final int NOBODY = -1;
    private static final int OTHER = -2;
    private static final int STATE = -3;
    private static final int BELOW = -4;
    private static final int ROOM = -6;
    private static final int LEAST_INT = Integer.MIN_VALUE;
    private static final int MOST_INT = Integer.MAX_VALUE;
    private static final Path DOCUMENT = Path.of("../shared/DOC.md");

    private static final Due D = new Due();
    private static final Set<String> COVERED = new TreeSet<>();

    private interface Call {
        long of(Percolated x);
    }

    private interface CallWith {
        long of(Percolated x, int number);
    }

    private enum At {
        NEW(0, Percolated::new), LIVED(6, States::lived), FULL(9, States::full), BRIM(2, States::brim);

        final int houses;
        private final Supplier<Percolated> maker;

        At(int houses, Supplier<Percolated> maker) {
            this.houses = houses;
            this.maker = maker;
        }

        Percolated make() {
            return maker.get();
        }
    }

    private static final At[] ALL = At.values();
    private static final At[] SETTLED = {At.LIVED, At.FULL, At.BRIM};

    private RefusalsTest() {
    }

    public static void main(String[] args) throws IOException {
        states();
        lettersAndRow();
        houses();
        changes();
        inMind();
        inMindOfAHouse();
        byTheRow();
        oddsAndShares();
        survey();
        backAndImage();
        firstThatFits();
        neverRefused();
        all();
        D.end("RefusalsTest");
    }

    private static long told(int promise, int number) {
        switch (promise) {
            case 26:
            case 30:
                return 4000000000000000000L - number;
            case 31:
                return 1000000000 - number;
            default:
                return number;
        }
    }

    private static void refused(int promise, String edge, int number, Call call, At... states) {
        COVERED.add(promise + " " + number);
        for (At at : states) {
            String name = edge + ", in a " + at + " object";
            Percolated x = at.make();
            Percolated twin = at.make();
            D.edge(promise, name, call.of(x), told(promise, number));
            for (int counted = -1; counted >= -6; counted--) {
                int more = x.count(10 - counted) - twin.count(10 - counted);
                D.edge(promise, name + ": counted as " + counted, more, counted == number ? 1 : 0);
            }
            D.same(promise, name + ": nothing changes", States.usedUp(x), States.usedUp(twin));
        }
    }

    private static void accepted(int promise, String edge, Call call, At at) {
        Percolated x = at.make();
        int before = refusals(x);
        call.of(x);
        D.edge(promise, edge + ", is not refused in a " + at + " object", refusals(x), before);
    }

    private static int refusals(Percolated x) {
        int sum = 0;
        for (int what = 11; what <= 16; what++) {
            sum += x.count(what);
        }
        return sum;
    }

    private static void nobody(int promise, CallWith call) {
        for (At at : ALL) {
            refused(promise, "HOUSE " + at.houses + " that is not there", NOBODY, x -> call.of(x, at.houses), at);
        }
        for (int house : new int[] {-1, LEAST_INT, MOST_INT}) {
            refused(promise, "HOUSE " + house, NOBODY, x -> call.of(x, house), ALL);
        }
        for (At at : SETTLED) {
            accepted(promise, "HOUSE 0", x -> call.of(x, 0), at);
            accepted(promise, "the last HOUSE", x -> call.of(x, at.houses - 1), at);
        }
    }

    private static void other(int promise, String name, int least, int most, CallWith call, At... states) {
        for (int what : new int[] {least - 1, most + 1, LEAST_INT, MOST_INT}) {
            refused(promise, name + " " + what, OTHER, x -> call.of(x, what), states);
        }
        for (int what = least; what <= most; what++) {
            int is = what;
            accepted(promise, name + " " + what, x -> call.of(x, is), At.LIVED);
        }
    }

    private static void between(int promise, String name, int least, int most, CallWith call, At... states) {
        for (int number : new int[] {least - 1, LEAST_INT}) {
            refused(promise, name + " " + number + " below the least", BELOW, x -> call.of(x, number), states);
        }
        for (int number : new int[] {most + 1, MOST_INT}) {
            refused(promise, name + " " + number + " above the greatest", ROOM, x -> call.of(x, number), states);
        }
        accepted(promise, name + " " + least + ", the least", x -> call.of(x, least), At.LIVED);
        accepted(promise, name + " " + most + ", the greatest", x -> call.of(x, most), At.LIVED);
    }

    /** A wrong state in the test would make every case in it worthless. */
    private static void states() {
        for (At at : ALL) {
            D.due(at + ": HOUSES", at.make().count(0), at.houses);
        }
        Percolated full = At.FULL.make();
        int[] most = {9, 999, 9999, 511, 511, 891, 0, 0, 8};
        for (int what = 0; what < most.length; what++) {
            D.due("FULL: count " + what, full.count(what), most[what]);
        }
        Percolated brim = At.BRIM.make();
        D.due("BRIM: letters", brim.count(6), 96);
        D.due("BRIM: in the ROW", brim.count(7), 12);
        D.due("LIVED: to be TAKEN BACK", At.LIVED.make().count(8), 4);
        D.due("what is used up is seen: letters", sees(x -> x.feed('d')), 1);
        D.due("what is used up is seen: a number", sees(x -> x.row(1)), 1);
        D.due("what is used up is seen: an image", sees(Percolated::image), 1);
        D.due("what is used up is seen: one more to take back", sees(x -> x.pours(0, 0)), 1);
    }

    private static int sees(Call change) {
        Percolated x = At.LIVED.make();
        change.of(x);
        return States.usedUp(x).equals(States.usedUp(At.LIVED.make())) ? 0 : 1;
    }

    private static void lettersAndRow() {
        between(2, "letter", 0, 255, Percolated::feed, At.NEW, At.LIVED, At.FULL);
        refused(2, "letter 0 behind 96", ROOM, x -> x.feed(0), At.BRIM);
        refused(2, "letter 255 behind 96", ROOM, x -> x.feed(255), At.BRIM);
        refused(2, "letter 256 behind 96, once", ROOM, x -> x.feed(256), At.BRIM);
        between(34, "v", 0, 99, Percolated::row, At.NEW, At.LIVED, At.FULL);
        refused(34, "v 0 behind 12", ROOM, x -> x.row(0), At.BRIM);
        refused(34, "v 99 behind 12", ROOM, x -> x.row(99), At.BRIM);
        refused(34, "v 100 behind 12, once", ROOM, x -> x.row(100), At.BRIM);
    }

    private static void houses() {
        nobody(4, (x, house) -> x.houseOf(house, 0));
        other(4, "what", 0, 6, (x, what) -> x.houseOf(0, what), SETTLED);
        other(5, "KIND", 0, 5, (x, kind) -> x.house(kind, 0), ALL);
        between(5, "FIGURE", 0, 9, (x, figure) -> x.house(0, figure), ALL);
        refused(5, "nine there are", ROOM, x -> x.house(0, 0), At.FULL);
        refused(5, "nine there are, FIGURE 9", ROOM, x -> x.house(5, 9), At.FULL);
        refused(5, "nine there are, FIGURE 10, once", ROOM, x -> x.house(5, 10), At.FULL);
    }

    private static void changes() {
        nobody(6, (x, house) -> x.joins(house, 9));
        for (int next : new int[] {-1, 10, LEAST_INT, MOST_INT}) {
            refused(6, "NEXT " + next, NOBODY, x -> x.joins(0, next), SETTLED);
        }
        refused(6, "either, once", NOBODY, x -> x.joins(-1, 10), ALL);
        refused(6, "NEXT itself", STATE, x -> x.joins(0, 0), SETTLED);
        refused(6, "NEXT itself, the last", STATE, x -> x.joins(8, 8), At.FULL);
        refused(6, "NEXT one less", STATE, x -> x.joins(8, 7), At.FULL);
        refused(6, "NEXT 0", STATE, x -> x.joins(1, 0), SETTLED);
        accepted(6, "NEXT one greater", x -> x.joins(0, 1), At.LIVED);
        accepted(6, "NEXT not there yet", x -> x.joins(0, 8), At.LIVED);
        accepted(6, "NEXT 9", x -> x.joins(8, 9), At.FULL);
        nobody(7, Percolated::blocks);
        nobody(8, (x, house) -> x.pours(house, 0));
        between(8, "v", 0, 99, (x, v) -> x.pours(0, v), SETTLED);
        between(10, "n", 1, 60, Percolated::hours, ALL);
        refused(10, "one HOUR above 999", ROOM, x -> x.hours(1), At.FULL);
        refused(10, "60 HOURS above 999", ROOM, x -> x.hours(60), At.FULL);
        refused(10, "61 HOURS above 999, once", ROOM, x -> x.hours(61), At.FULL);
    }

    private static void inMind() {
        between(13, "n", 0, 60, (x, n) -> x.then(n, 0), ALL);
        other(13, "what", 0, 1, (x, what) -> x.then(60, what), ALL);
        other(14, "what", 0, 2, Percolated::drip, ALL);
        between(16, "v", 1, 99, (x, v) -> x.pour(v, 60, 0), ALL);
        between(16, "n", 0, 60, (x, n) -> x.pour(99, n, 1), ALL);
        other(16, "what", 0, 1, (x, what) -> x.pour(1, 0, what), ALL);
        between(17, "w", 0, 999, (x, w) -> x.least(w, 60), ALL);
        between(17, "n", 0, 60, (x, n) -> x.least(999, n), ALL);
        between(18, "n", 0, 60, Percolated::clearing, ALL);
        between(19, "n", 0, 60, Percolated::stop, ALL);
        between(20, "n", 0, 60, Percolated::join, ALL);
        between(31, "n", 0, 60, Percolated::strong, ALL);
    }

    private static void inMindOfAHouse() {
        nobody(12, (x, house) -> x.holdsIn(house, 60));
        between(12, "n", 0, 60, (x, n) -> x.holdsIn(0, n), SETTLED);
        nobody(15, (x, house) -> x.reaches(house, 99));
        between(15, "v", 1, 99, (x, v) -> x.reaches(0, v), SETTLED);
        nobody(21, (x, house) -> x.way(house, 2));
        other(21, "what", 0, 2, (x, what) -> x.way(0, what), SETTLED);
        nobody(25, (x, house) -> x.two(house, house == 1 ? 0 : 1, 30));
        nobody(25, (x, house) -> x.two(house == 0 ? 1 : 0, house, 30));
        refused(25, "one twice", NOBODY, x -> x.two(0, 0, 30), SETTLED);
        refused(25, "one twice, the last", NOBODY, x -> x.two(8, 8, 0), At.FULL);
        refused(25, "neither there, once", NOBODY, x -> x.two(9, 9, 0), ALL);
        between(25, "n", 0, 30, (x, n) -> x.two(0, 1, n), SETTLED);
        nobody(29, Percolated::into);
        refused(29, "the CUP is no HOUSE", NOBODY, x -> x.into(9), ALL);
        nobody(33, (x, house) -> x.turn(house, 60));
        between(33, "n", 0, 60, (x, n) -> x.turn(0, n), SETTLED);
    }

    private static void byTheRow() {
        nobody(23, (x, house) -> x.wasPoured(house, 2));
        other(23, "what", 0, 2, (x, what) -> x.wasPoured(0, what), SETTLED);
        nobody(24, (x, house) -> x.whatKind(house, 1));
        other(24, "what", 0, 1, (x, what) -> x.whatKind(0, what), SETTLED);
    }

    private static void oddsAndShares() {
        between(26, "n", 0, 7, (x, n) -> x.blocked(n, 20, 999, 1), ALL);
        between(26, "t", 2, 20, (x, t) -> x.blocked(7, t, 999, 0), ALL);
        between(26, "v", 0, 999, (x, v) -> x.blocked(7, 2, v, 1), ALL);
        other(26, "part", 0, 1, (x, part) -> x.blocked(0, 2, 0, part), ALL);
        between(27, "n", 1, 9, (x, n) -> x.shares(n, 1), ALL);
        other(27, "what", 0, 1, (x, what) -> x.shares(9, what), ALL);
        other(30, "part", 0, 1, Percolated::mean, ALL);
        between(37, "n", 1, 20, (x, n) -> x.lots(n, MOST_INT, 0), ALL);
        other(37, "what", 0, 1, (x, what) -> x.lots(20, LEAST_INT, what), ALL);
    }

    private static void survey() {
        other(28, "what", 0, 5, Percolated::fullest, ALL);
        other(32, "KIND", 0, 5, Percolated::kinds, ALL);
    }

    private static void backAndImage() {
        refused(11, "none can be TAKEN BACK", STATE, Percolated::back, At.NEW);
        accepted(11, "one can be TAKEN BACK", Percolated::back, At.BRIM);
        refused(39, "there is no image", STATE, Percolated::restore, At.NEW);
        accepted(39, "there is one", Percolated::restore, At.LIVED);
    }

    /** Of two that fit, the first in the order of the promise. */
    private static void firstThatFits() {
        refused(2, "below, and 96 there are", BELOW, x -> x.feed(-1), At.BRIM);
        refused(4, "nobody, and other", NOBODY, x -> x.houseOf(-1, 7), ALL);
        refused(5, "other, and below", OTHER, x -> x.house(6, -1), ALL);
        refused(5, "other, and above", OTHER, x -> x.house(-1, 10), ALL);
        refused(5, "other, and nine there are", OTHER, x -> x.house(6, 0), At.FULL);
        refused(5, "below, and nine there are", BELOW, x -> x.house(0, -1), At.FULL);
        refused(6, "nobody, and not greater", NOBODY, x -> x.joins(9, 0), ALL);
        refused(6, "NEXT -1, which is not greater", NOBODY, x -> x.joins(0, -1), SETTLED);
        refused(8, "nobody, and below", NOBODY, x -> x.pours(9, -1), ALL);
        refused(8, "nobody, and above", NOBODY, x -> x.pours(-1, 100), ALL);
        refused(10, "below, on HOUR 999", BELOW, x -> x.hours(0), At.FULL);
        refused(12, "nobody, and below", NOBODY, x -> x.holdsIn(9, -1), ALL);
        refused(12, "nobody, and above", NOBODY, x -> x.holdsIn(-1, 61), ALL);
        refused(13, "below, and other", BELOW, x -> x.then(-1, 2), ALL);
        refused(13, "above, and other", ROOM, x -> x.then(61, -1), ALL);
        refused(15, "nobody, and below", NOBODY, x -> x.reaches(9, 0), ALL);
        refused(15, "nobody, and above", NOBODY, x -> x.reaches(-1, 100), ALL);
        refused(16, "v below, and n above", BELOW, x -> x.pour(0, 61, 2), ALL);
        refused(16, "n below, and v above", BELOW, x -> x.pour(100, -1, 2), ALL);
        refused(16, "v above, and other", ROOM, x -> x.pour(100, 0, 2), ALL);
        refused(16, "n above, and other", ROOM, x -> x.pour(1, 61, -1), ALL);
        refused(16, "both above, once", ROOM, x -> x.pour(100, 61, 0), ALL);
        refused(17, "w below, and n above", BELOW, x -> x.least(-1, 61), ALL);
        refused(17, "n below, and w above", BELOW, x -> x.least(1000, -1), ALL);
        refused(17, "both below, once", BELOW, x -> x.least(-1, -1), ALL);
        refused(21, "nobody, and other", NOBODY, x -> x.way(9, 3), ALL);
        refused(23, "nobody, and other", NOBODY, x -> x.wasPoured(9, 3), ALL);
        refused(24, "nobody, and other", NOBODY, x -> x.whatKind(9, 2), ALL);
        refused(25, "nobody, and below", NOBODY, x -> x.two(0, 9, -1), ALL);
        refused(25, "one twice, and above", NOBODY, x -> x.two(1, 1, 31), ALL);
        refused(26, "n below, t and v above", BELOW, x -> x.blocked(-1, 21, 1000, 2), ALL);
        refused(26, "t below, n and v above", BELOW, x -> x.blocked(8, 1, 1000, 2), ALL);
        refused(26, "v below, n and t above", BELOW, x -> x.blocked(8, 21, -1, 2), ALL);
        refused(26, "n above, and other", ROOM, x -> x.blocked(8, 20, 999, 2), ALL);
        refused(26, "t above, and other", ROOM, x -> x.blocked(7, 21, 999, -1), ALL);
        refused(26, "v above, and other", ROOM, x -> x.blocked(7, 20, 1000, 2), ALL);
        refused(27, "below, and other", BELOW, x -> x.shares(0, 2), ALL);
        refused(27, "above, and other", ROOM, x -> x.shares(10, -1), ALL);
        refused(33, "nobody, and below", NOBODY, x -> x.turn(9, -1), ALL);
        refused(33, "nobody, and above", NOBODY, x -> x.turn(-1, 61), ALL);
        refused(34, "below, and 12 there are", BELOW, x -> x.row(-1), At.BRIM);
        refused(37, "below, and other", BELOW, x -> x.lots(0, 0, 2), ALL);
        refused(37, "above, and other", ROOM, x -> x.lots(21, 0, -1), ALL);
    }

    /** What tells no refusal, and -9, are counted nowhere. */
    private static void neverRefused() {
        for (At at : ALL) {
            accepted(3, "a PARISH or its FAULT", Percolated::parish, at);
            accepted(9, "empties()", Percolated::empties, at);
            accepted(22, "whichBlocked()", Percolated::whichBlocked, at);
            accepted(35, "judge()", Percolated::judge, at);
            accepted(36, "clear()", Percolated::clear, at);
            accepted(38, "image()", Percolated::image, at);
            for (int what : new int[] {-1, 0, 8, 9, 10, 11, 16, 17, LEAST_INT, MOST_INT}) {
                accepted(40, "what " + what, x -> x.count(what), at);
            }
        }
        accepted(14, "-9", x -> x.drip(0), At.NEW);
        accepted(16, "-9", x -> x.pour(1, 0, 0), At.NEW);
        accepted(17, "-9", x -> x.least(0, 0), At.NEW);
        accepted(19, "-9", x -> x.stop(0), At.NEW);
        accepted(20, "-9", x -> x.join(0), At.NEW);
        accepted(28, "-9", x -> x.fullest(0), At.NEW);
    }

    /** The document's own text says which refusals there are: none may lack above. */
    private static void all() throws IOException {
        Matcher promise = Pattern.compile("(?s)## Promise (\\d+): \\w[^\\n]*\\n\\s*`[^`]*`: (.*?)(?=\\n## )")
            .matcher(Files.readString(DOCUMENT));
        int promises = 0;
        while (promise.find()) {
            promises++;
            if (promise.group(1).equals("40")) {
                continue;
            }
            Matcher number = Pattern.compile("-[1-6]\\b").matcher(promise.group(2));
            while (number.find()) {
                String refusal = promise.group(1) + " " + number.group();
                D.due("the document's refusal " + refusal + " is tested", COVERED.contains(refusal) ? 1 : 0, 1);
            }
        }
        D.due("promises of the document", promises, 40);
    }
}

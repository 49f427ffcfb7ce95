import java.util.List;
import java.util.TreeSet;

/** Counts the answers that are not as due and ends a test with exit code 1 if there was one. */
final class Due {
    private final TreeSet<Integer> edgesOf = new TreeSet<>();
    private int wrong;
    private int asked;

    void due(String what, long got, long want) {
        asked++;
        if (got != want) {
            wrong++;
            System.out.println("  " + what + ": answered " + got + ", due is " + want);
        }
    }

    /** A case at an edge, told with its promise's number. */
    void edge(int promise, String edge, long got, long want) {
        edgesOf.add(promise);
        due("promise " + promise + ", " + edge, got, want);
    }

    void same(int promise, String edge, String got, String want) {
        edge(promise, edge, got.equals(want) ? 1 : 0, 1);
        if (!got.equals(want)) {
            System.out.println("    " + got + "\n    is not\n    " + want);
        }
    }

    /** Ends a test of edges, which must have asked just these promises. */
    void endOfEdges(String test, Integer... promises) {
        boolean all = edgesOf.equals(new TreeSet<>(List.of(promises)));
        due(test + ": edges of the promises " + edgesOf, all ? 1 : 0, 1);
        end(test);
    }

    void end(String test) {
        System.out.println("  " + test + ": " + asked + " answers looked at, " + wrong + " wrong");
        if (wrong != 0 || asked == 0) {
            System.exit(1);
        }
    }

    static void feed(Percolated x, String letters) {
        for (int i = 0; i < letters.length(); i++) {
            x.feed(letters.charAt(i));
        }
    }

    static int tell(Percolated x, String letters) {
        feed(x, letters);
        return x.parish();
    }

    /** A parish told in letters; a fault in them is a fault of the test. */
    static Percolated told(String letters) {
        Percolated x = new Percolated();
        if (tell(x, letters) < 1) {
            throw new IllegalStateException("the test told a parish with a fault: " + letters);
        }
        return x;
    }

    static void row(Percolated x, int... numbers) {
        for (int number : numbers) {
            x.row(number);
        }
    }
}

/** Counts the answers that are not as due and ends a test with exit code 1 if there was one. */
final class Due {
    private int wrong;
    private int asked;

    void due(String what, long got, long want) {
        asked++;
        if (got != want) {
            wrong++;
            System.out.println("  " + what + ": answered " + got + ", due is " + want);
        }
    }

    void end(String test) {
        System.out.println("  " + test + ": " + asked + " answers looked at, " + wrong + " wrong");
        if (wrong != 0 || asked == 0) {
            System.exit(1);
        }
    }

    static void feed(Percolated x, String letters) {
        for (int i = 0; i < letters.length(); i++) {
            x.feed(letters.charAt(i));
        }
    }

    /** A parish told in letters; a fault in them is a fault of the test. */
    static Percolated told(String letters) {
        Percolated x = new Percolated();
        feed(x, letters);
        if (x.parish() < 1) {
            throw new IllegalStateException("the test told a parish with a fault: " + letters);
        }
        return x;
    }

    static void row(Percolated x, int... numbers) {
        for (int number : numbers) {
            x.row(number);
        }
    }
}

import java.util.NoSuchElementException;

/** Counts and prints every answer that is not the one that is due. */
final class Check {
    private int wrong = 0;
    private int asked = 0;

    void due(String call, long got, long want) {
        asked++;
        if (got != want) {
            wrong++;
            System.out.println(call + " answered " + got + ", due is " + want);
        }
    }

    void due(String call, boolean got, boolean want) {
        due(call, got ? 1 : 0, want ? 1 : 0);
    }

    void octetThrows(ScrawlHouse x, int k) {
        boolean thrown = false;
        try {
            x.octet(k);
        } catch (NoSuchElementException e) {
            thrown = true;
        }
        due("octet(" + k + ") throws", thrown, true);
    }

    /** Ends the program with exit code 1 if any answer was wrong. */
    void finish() {
        System.out.println(asked + " answers, " + wrong + " wrong");
        if (wrong != 0 || asked == 0) {
            System.exit(1);
        }
    }
}

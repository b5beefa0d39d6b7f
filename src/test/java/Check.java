import java.util.NoSuchElementException;
import java.util.Set;
import java.util.TreeSet;

/** Counts and prints every answer that is not the one that is due. */
final class Check {
    private final Set<Integer> promises = new TreeSet<>();
    private String sentence = "";
    private int askedOfSentence = 1;
    private int wrong = 0;
    private int asked = 0;

    /** The answers that follow hold the class to one sentence of the document, told with its promise. */
    void promise(int number, String words) {
        endSentence();
        promises.add(number);
        sentence = "promise " + number + " (" + words + "): ";
        askedOfSentence = 0;
    }

    void due(String call, long got, long want) {
        asked++;
        askedOfSentence++;
        if (got != want) {
            wrong++;
            System.out.println(sentence + call + " answered " + got + ", due is " + want);
        }
    }

    void due(String call, boolean got, boolean want) {
        due(call, got ? 1 : 0, want ? 1 : 0);
    }

    void octetThrows(ScrawlHouse x, int k) {
        boolean thrown = false;
        try {
            x.octet(k);
        } catch (NoSuchElementException e) {
            thrown = true;
        }
        due("octet(" + k + ") throws", thrown, true);
    }

    /** A sentence that nothing was asked of is not tested. */
    private void endSentence() {
        if (askedOfSentence == 0) {
            wrong++;
            System.out.println(sentence + "nothing was asked");
        }
    }

    /** Ends like finish(), and also if a promise that the test is for had no sentence of its own. */
    void finishEdges(int... due) {
        for (int number : due) {
            if (!promises.contains(number)) {
                wrong++;
                System.out.println("promise " + number + " has no sentence here");
            }
        }
        finish();
    }

    /** Ends the program with exit code 1 if any answer was wrong. */
    void finish() {
        endSentence();
        System.out.println(asked + " answers, " + wrong + " wrong");
        if (wrong != 0 || asked == 0) {
            System.exit(1);
        }
    }
}

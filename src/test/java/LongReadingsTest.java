import java.util.Random;

/** Promises 10 and 15 to 19 with many WORDS, long SCRAWLS and much that is worn, held against the oracle. */
public final class LongReadingsTest {
    private static final String[] SORTS = {"name", "trade", "office", "thing", "other"};

    private final Random random;
    private final Twin twin = new Twin();
    private final int alphabet;
    private final int[] forms;

    private LongReadingsTest(long seed) {
        random = new Random(seed);
        alphabet = 2 + random.nextInt(4);
        forms = new int[alphabet * 3];
    }

    public static void main(String[] args) {
        int last = args.length > 0 ? Integer.parseInt(args[0]) : 120;
        int wrong = 0;
        for (int seed = 1; seed <= last; seed++) {
            LongReadingsTest run = new LongReadingsTest(seed);
            run.play();
            if (run.twin.differs()) {
                wrong++;
                System.out.println("seed " + seed + ":");
                run.twin.story().stream().filter(s -> s.contains("due is")).limit(5).forEach(System.out::println);
            }
        }
        System.out.println(last + " runs, " + wrong + " wrong");
        if (wrong != 0) {
            System.exit(1);
        }
    }

    private void play() {
        for (int i = 0; i < forms.length; i++) {
            forms[i] = 1 + random.nextInt(255);
            twin.ask("form", i / 3, forms[i]);
        }
        int words = 10 + random.nextInt(70);
        for (int i = 0; i < words; i++) {
            StringBuilder text = new StringBuilder();
            int length = 1 + random.nextInt(1 + random.nextInt(10));
            for (int k = 0; k < length; k++) {
                text.append((char) ('a' + random.nextInt(alphabet)));
            }
            twin.tape(text.toString());
            twin.ask("word", random.nextInt(5));
        }
        tellPatterns();
        twin.ask("wall", 0, 1);
        for (int i = 0; i < 4; i++) {
            twin.ask("habit", random.nextInt(4), random.nextInt(alphabet), random.nextInt(alphabet));
        }
        for (int s = 0; s < 12; s++) {
            tellScrawl(s);
            askAll(s);
        }
        tellPatterns();
        for (int s = 0; s < 12; s++) {
            askAll(s);
        }
    }

    private void tellPatterns() {
        StringBuilder text = new StringBuilder();
        int patterns = 1 + random.nextInt(6);
        for (int p = 0; p < patterns; p++) {
            int items = 1 + random.nextInt(6);
            int needed = random.nextInt(items);
            for (int i = 0; i < items; i++) {
                text.append(SORTS[random.nextInt(5)]).append(i != needed && random.nextInt(3) > 0 ? "?" : " ");
            }
            text.append(';');
        }
        twin.tape(text.length() > 230 ? "name;" : text.toString());
        twin.ask("patterns");
    }

    private void tellScrawl(int s) {
        int places = 1 + random.nextInt(random.nextBoolean() ? 24 : 8);
        twin.ask("scrawl", 0, 0, places);
        int style = random.nextInt(3);
        StringBuilder marks = new StringBuilder();
        StringBuilder letters = new StringBuilder();
        for (int p = 0; p < places; p++) {
            int letter = random.nextInt(alphabet);
            int gone = random.nextInt(3) == 0 ? random.nextInt(256) : 255 & ~(random.nextInt(256) & random.nextInt(256));
            marks.append((char) (forms[letter * 3 + style] & ~gone)).append((char) gone);
            letters.append(random.nextInt(4) == 0 ? (char) ('a' + letter) : '.');
        }
        if (random.nextInt(3) > 0) {
            twin.tape(marks.toString());
            twin.ask("photo", s);
        }
        if (random.nextInt(3) > 0) {
            twin.tape(letters.toString());
            twin.ask("drawing", s, random.nextInt(4));
        }
    }

    private void askAll(int s) {
        int size = twin.ask("read", s, 0);
        for (int k = 0; k < size; k++) {
            twin.ask("octet", k);
        }
        for (int what = 0; what < 6; what++) {
            twin.ask("reading", s, 0, what);
        }
        for (int letter = 0; letter < alphabet; letter++) {
            twin.ask("used", s, letter, 0);
        }
    }
}

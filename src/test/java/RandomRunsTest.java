import java.util.ArrayList;
import java.util.List;
import java.util.Map;
import java.util.Random;
import java.util.TreeMap;

/** All promises: long runs of random calls, each answer held against the oracle's; the seeds are fixed. */
public final class RandomRunsTest {
    private static final int CALLS = 512;
    private static final String[] SORTS = {"name", "trade", "office", "thing", "other"};

    private final Random random;
    private final Twin twin = new Twin();
    private final int alphabet;
    private final List<String> words = new ArrayList<>();
    private final List<Integer> sorts = new ArrayList<>();
    private final int[][] forms = new int[26][3];
    private final int[] formCounts = new int[26];
    private final List<String> texts = new ArrayList<>();
    private final List<List<Integer>> rows = new ArrayList<>();
    private final List<List<Integer>> draftRows = new ArrayList<>();
    private int walls = 0;
    private final boolean wild;
    /** Many SCRAWLS of one name, with trades and years of their own: for PERSONS and WALKS. */
    private final boolean crowd;

    private RandomRunsTest(long seed) {
        random = new Random(seed);
        alphabet = 3 + random.nextInt(5);
        wild = seed % 4 == 0;
        crowd = seed % 3 == 0;
    }

    public static void main(String[] args) {
        int first = args.length > 0 ? Integer.parseInt(args[0]) : 1;
        int last = args.length > 1 ? Integer.parseInt(args[1]) : 150;
        boolean told = args.length > 2;
        int wrong = 0;
        long calls = 0;
        Map<String, Map<String, Integer>> seen = new TreeMap<>();
        for (int seed = first; seed <= last; seed++) {
            RandomRunsTest run = new RandomRunsTest(seed);
            run.play();
            calls += run.twin.calls();
            if (told) {
                run.tally(seen);
            }
            if (run.twin.differs()) {
                wrong++;
                System.out.println("seed " + seed + ":");
                run.twin.story().stream().filter(s -> s.contains("due is")).limit(5).forEach(System.out::println);
            }
        }
        seen.forEach((name, answers) -> System.out.println(name + " " + answers));
        System.out.println((last - first + 1) + " runs, " + calls + " calls, " + wrong + " runs wrong");
        if (wrong != 0) {
            System.exit(1);
        }
    }

    private void tally(Map<String, Map<String, Integer>> seen) {
        for (String call : twin.story()) {
            String name = call.substring(0, call.indexOf('['));
            String answer = call.substring(call.indexOf("->") + 3);
            seen.computeIfAbsent(name, n -> new TreeMap<>()).merge(answer, 1, Integer::sum);
        }
    }

    private void play() {
        if (crowd) {
            tellCrowd();
        } else {
            tellLore();
        }
        while (twin.calls() < CALLS && !twin.differs()) {
            int turn = random.nextInt(100);
            if (turn < 6) {
                tellScrawl();
            } else if (turn < 12) {
                tellFact();
            } else if (turn < 15) {
                twin.ask("next", random.nextInt(12) == 0 ? odd() : random.nextInt(4));
            } else if (turn < 18) {
                tellMore();
            } else {
                askOne();
            }
        }
    }

    /** A number that is mostly not as told. */
    private int odd() {
        int[] odds = {-1, -2, 0, 1, 12, 20, 25, 26, 80, 199, 200, 255, 256, 999, 1000,
            Integer.MAX_VALUE, Integer.MIN_VALUE};
        return odds[random.nextInt(odds.length)];
    }

    private int below(int n) {
        return random.nextInt(40) == 0 ? odd() : random.nextInt(Math.max(1, n));
    }

    private int strokes() {
        int bits = 0;
        for (int i = 0; i < 3; i++) {
            bits |= 1 << random.nextInt(8);
        }
        return bits;
    }

    private void tellForm() {
        int letter = below(alphabet);
        int marks = random.nextInt(30) == 0 ? odd() : strokes();
        int number = twin.ask("form", letter, marks);
        if (number >= 0) {
            forms[letter][number] = marks;
            formCounts[letter] = number + 1;
        }
    }

    private void tellWord() {
        int length = random.nextInt(8) == 0 ? 1 + random.nextInt(10) : 1 + random.nextInt(3);
        StringBuilder text = new StringBuilder();
        for (int i = 0; i < length; i++) {
            text.append((char) ('a' + random.nextInt(alphabet)));
        }
        if (random.nextInt(25) == 0) {
            text.append("?{`Aabcdefghijk".charAt(random.nextInt(12)));
        }
        twin.tape(text.toString());
        int sort = words.size() < 5 ? words.size() : below(5);
        if (twin.ask("word", sort) >= 0) {
            words.add(text.toString());
            sorts.add(sort);
        }
    }

    private String patternText() {
        StringBuilder text = new StringBuilder();
        draftRows.clear();
        int patterns = 1 + random.nextInt(random.nextInt(5) == 0 ? 9 : 4);
        for (int p = 0; p < patterns; p++) {
            int items = 1 + random.nextInt(random.nextInt(6) == 0 ? 7 : 4);
            int needed = random.nextInt(items + (random.nextInt(15) == 0 ? 1 : 0));
            List<Integer> row = new ArrayList<>();
            for (int i = 0; i < items; i++) {
                int sort = i == 0 && random.nextInt(3) > 0 ? 0 : random.nextInt(5);
                boolean optional = i != needed && random.nextInt(2) == 0;
                text.append(SORTS[sort]);
                text.append(random.nextInt(10) == 0 ? "\n" : "").append(optional ? "? " : " ");
                if (!optional || random.nextBoolean()) {
                    row.add(sort);
                }
            }
            draftRows.add(row);
            text.append(random.nextInt(40) == 0 ? "" : ";").append(random.nextInt(3) == 0 ? " " : "");
        }
        while (random.nextInt(12) == 0) {
            text.setCharAt(random.nextInt(text.length()), "nxt ?;\nA".charAt(random.nextInt(8)));
        }
        return text.length() > 230 ? text.substring(0, 230) : text.toString();
    }

    private void tellPatterns() {
        twin.tape(patternText());
        if (twin.ask("patterns") > 0) {
            rows.clear();
            rows.addAll(draftRows);
        }
        twin.ask("fault");
        twin.ask("count", 4);
    }

    private void tellLore() {
        for (int i = 0; i < 2 * alphabet; i++) {
            tellForm();
        }
        for (int i = 0; i < 8 + random.nextInt(12); i++) {
            tellWord();
        }
        tellPatterns();
        for (int i = 0; i < 2 + random.nextInt(7); i++) {
            walls += twin.ask("wall", below(12), 1 + below(4)) >= 0 ? 1 : 0;
        }
        for (int i = 0; i < random.nextInt(20); i++) {
            twin.ask("street", below(12), below(12), 1 + below(99));
        }
        for (int i = 0; i < random.nextInt(10); i++) {
            twin.ask("habit", below(4), below(alphabet), below(alphabet));
        }
        for (int i = 0; i < 2 + random.nextInt(5); i++) {
            tellScrawl();
        }
    }

    private void tellCrowd() {
        int names = 1 + random.nextInt(2);
        for (int i = 0; i < names + 3; i++) {
            twin.tape("" + (char) ('a' + i));
            words.add("" + (char) ('a' + i));
            sorts.add(i < names ? 0 : 1);
            twin.ask("word", i < names ? 0 : 1);
        }
        twin.tape("name trade?;");
        twin.ask("patterns");
        rows.add(List.of(0));
        rows.add(List.of(0, 1));
        int streets = 8 + random.nextInt(12);
        for (int i = 0; i < streets; i++) {
            twin.ask("street", random.nextInt(12), random.nextInt(12), 1 + random.nextInt(99));
        }
        for (int i = 0; i < 8; i++) {
            walls += twin.ask("wall", random.nextInt(12), 1) >= 0 ? 1 : 0;
        }
        int many = 6 + random.nextInt(8);
        for (int i = 0; i < many; i++) {
            String text = words.get(random.nextInt(names)) + (random.nextBoolean() ? "" : anyOf(1));
            texts.add(text);
            int s = twin.ask("scrawl", random.nextInt(walls), 0, text.length());
            twin.tape(text);
            twin.ask("drawing", s, 0);
            int from = random.nextInt(180);
            if (random.nextInt(4) > 0) {
                twin.ask("fact", 1, s, 0, from, Math.min(199, from + random.nextInt(80)));
            }
        }
    }

    private void tellMore() {
        switch (random.nextInt(8)) {
            case 0:
                tellForm();
                break;
            case 1:
                tellWord();
                break;
            case 2:
                twin.ask("street", below(12), below(12), 1 + below(99));
                break;
            case 3:
                walls += twin.ask("wall", below(12), 1 + below(4)) >= 0 ? 1 : 0;
                break;
            case 4:
                twin.ask("habit", below(4), below(alphabet), below(alphabet));
                break;
            case 5:
                if (random.nextInt(4) == 0) {
                    tellPatterns();
                }
                break;
            case 6:
                twin.ask("feed", odd(), odd(), odd(), odd(), odd());
                twin.ask("count", 9);
                twin.ask("end", odd());
                twin.ask("end", 0);
                break;
            default:
                if (!texts.isEmpty()) {
                    tellPhoto(random.nextInt(texts.size()));
                }
                break;
        }
    }

    /** A text that some PATTERN may tell, most times, with few names so that many SCRAWLS share one. */
    private String readable() {
        StringBuilder text = new StringBuilder();
        if (!rows.isEmpty() && random.nextInt(8) > 0) {
            for (int sort : rows.get(random.nextInt(rows.size()))) {
                text.append(sort == 0 && random.nextBoolean() ? firstName() : anyOf(sort));
            }
        }
        return text.length() == 0 || text.length() > 24 ? "ab" : text.toString();
    }

    private String firstName() {
        int w = sorts.indexOf(0);
        return w < 0 ? "a" : words.get(w);
    }

    private String anyOf(int sort) {
        int w = wordOf(sort);
        return w >= 0 && w < words.size() ? words.get(w) : "a";
    }

    private void tellScrawl() {
        String text = readable();
        int s = twin.ask("scrawl", below(walls), random.nextInt(2) == 0 ? 0 : below(4),
                random.nextInt(30) == 0 ? odd() : text.length());
        if (s < 0) {
            return;
        }
        texts.add(text);
        if (random.nextInt(3) > 0) {
            tellPhoto(s);
        }
        if (random.nextInt(3) > 0) {
            tellDrawing(s);
        }
    }

    private void tellPhoto(int s) {
        String text = texts.get(s);
        int style = random.nextInt(3);
        StringBuilder bytes = new StringBuilder();
        for (int i = 0; i < text.length(); i++) {
            int letter = text.charAt(i) - 'a';
            int many = formCounts[letter];
            int form = many == 0 ? strokes() : forms[letter][(style + letter) % many];
            int gone = random.nextInt(6) == 0 ? random.nextInt(256) & random.nextInt(256) : 0;
            bytes.append((char) (form & ~gone)).append((char) (random.nextInt(400) == 0 ? form : gone));
        }
        if (random.nextInt(30) == 0) {
            bytes.append('a');
        }
        twin.tape(bytes.toString());
        twin.ask("photo", random.nextInt(40) == 0 ? odd() : s);
    }

    private void tellDrawing(int s) {
        StringBuilder text = new StringBuilder(texts.get(s));
        while (random.nextInt(5) > 1) {
            int place = random.nextInt(text.length());
            boolean dot = random.nextInt(8) > 0;
            text.setCharAt(place, dot ? '.' : (char) ('a' + random.nextInt(alphabet)));
        }
        if (random.nextInt(30) == 0) {
            text.append("aA ".charAt(random.nextInt(3)));
        }
        twin.tape(text.toString());
        twin.ask("drawing", random.nextInt(40) == 0 ? odd() : s, below(4));
    }

    private int wordOf(int sort) {
        for (int i = 0; i < 8 && !words.isEmpty(); i++) {
            int w = random.nextInt(words.size());
            if (sorts.get(w) == sort) {
                return w;
            }
        }
        return below(words.size());
    }

    private void tellFact() {
        int kind = below(5);
        int a = 0;
        int b = 0;
        if (kind == 0) {
            a = below(walls);
            b = below(2);
        } else if (kind == 3) {
            a = wordOf(0);
            b = wordOf(2);
        } else if (kind == 4) {
            a = wordOf(3);
        } else {
            a = below(texts.size());
            b = below(texts.size());
        }
        int wide = wild ? 60 : 170;
        int from = below(200 - wide / 2);
        int to = random.nextInt(40) == 0 ? odd() : Math.min(199, from + random.nextInt(wide));
        int many = kind >= 3 && kind <= 4 ? 1 + random.nextInt(3) : 1;
        for (int i = 0; i < many; i++) {
            twin.ask("fact", kind, a, b, (from + 29 * i) % 200, Math.max((from + 29 * i) % 200, to));
        }
        if (random.nextInt(30) == 0) {
            twin.ask("fact", kind, a, b, to, from);
        }
    }

    private int day() {
        int now = twin.ask("count", 0);
        int pick = random.nextInt(10);
        if (pick == 0) {
            return odd();
        }
        return pick < 5 ? now : random.nextInt(now + 1);
    }

    private void askOne() {
        int t = day();
        int s = below(texts.size());
        switch (random.nextInt(14)) {
            case 0:
                twin.ask("cost", s, below(8), below(alphabet), t);
                break;
            case 1:
                int size = twin.ask("read", s, t);
                twin.ask("octet", random.nextInt(4) == 0 ? odd() : random.nextInt(Math.max(1, size + 1)));
                break;
            case 2:
            case 3:
                twin.ask("reading", s, t, below(7));
                break;
            case 4:
                twin.ask("used", s, below(alphabet), t);
                break;
            case 5:
                twin.ask("agree", s, below(texts.size()), t);
                break;
            case 6:
                twin.ask("hand", s, t);
                break;
            case 7:
                twin.ask("span", s, t, random.nextInt(2));
                break;
            case 8:
                twin.ask("laid", below(walls), below(4), t, random.nextInt(2));
                break;
            case 9:
                twin.ask("spoilt", t);
                break;
            case 10:
                twin.ask("persons", random.nextBoolean() ? sorts.indexOf(0) : wordOf(0), t);
                break;
            case 11:
                twin.ask("person", s, t);
                break;
            case 12:
                twin.ask("walk", random.nextInt(4) > 0 ? sorts.indexOf(0) : wordOf(0), below(3), t);
                break;
            default:
                twin.ask("count", below(12));
                break;
        }
    }
}

import java.util.ArrayList;
import java.util.Arrays;
import java.util.List;
import java.util.Random;
import java.util.regex.Matcher;
import java.util.regex.Pattern;

/**
 * Promises 10, 11, 15, 16, 18, 19 and 23 to 28 in small houses, where every answer that could be is tried and held
 * against the document's own words: no way of the program's or of the oracle's is used.
 */
public final class ByTrialTest {
    private static final Check CHECK = new Check();
    private static final String[] SORTS = {"name", "trade", "office", "thing", "other"};
    private static final String SIGNS = "ntohr";

    private final Random random;
    private final ScrawlHouse x = new ScrawlHouse();

    private ByTrialTest(long seed) {
        random = new Random(seed);
    }

    public static void main(String[] args) {
        int last = args.length > 0 ? Integer.parseInt(args[0]) : 120;
        for (int seed = 1; seed <= last; seed++) {
            for (int i = 0; i < 20; i++) {
                new ByTrialTest(1000L * seed + i).patternsByTrial();
            }
            new ByTrialTest(seed).readingsByTrial();
            new ByTrialTest(seed).yearsByTrial();
            new ByTrialTest(seed).personsByTrial();
        }
        CHECK.finish();
    }

    private int among(int from, int to) {
        return from + random.nextInt(to - from + 1);
    }

    private boolean oneIn(int n) {
        return random.nextInt(n) == 0;
    }

    // ---- PATTERNS: a TOKEN can come if some text that goes on behind it is right

    private static final Pattern GRAMMAR = Pattern.compile("((i\\??)+;)*");

    private void patternsByTrial() {
        List<String> tokens = new ArrayList<>();
        StringBuilder text = new StringBuilder();
        List<Integer> places = new ArrayList<>();
        tellTokens(tokens, places, text);
        String all = text.length() > 240 ? text.substring(0, 240) : text.toString();
        int due = firstFault(tokens, places, all);
        int got = Tell.patterns(x, all);
        CHECK.due("patterns of '" + all + "'", got, due < 0 ? stops(tokens) : -1 - due % 1000);
        CHECK.due("fault of '" + all + "'", x.fault(), due < 0 ? 0 : due / 1000);
    }

    private void tellTokens(List<String> tokens, List<Integer> places, StringBuilder text) {
        int patterns = among(0, oneIn(3) ? 10 : 5);
        boolean hasFault = oneIn(2);
        for (int p = 0; p < patterns; p++) {
            int items = oneIn(hasFault ? 6 : 1000) ? 7 : among(1, patterns > 6 ? 3 : 6);
            int needed = hasFault && oneIn(8) ? -1 : random.nextInt(items);
            for (int i = 0; i < items; i++) {
                addToken(hasFault && oneIn(40) ? "namer" : SORTS[random.nextInt(5)], tokens, places, text);
                if (i != needed && oneIn(2) || needed < 0) {
                    addToken("?", tokens, places, text);
                }
            }
            if (!hasFault || !oneIn(12)) {
                addToken(hasFault && oneIn(30) ? "A" : ";", tokens, places, text);
            }
            if (hasFault && oneIn(20)) {
                addToken(oneIn(2) ? "?" : ";", tokens, places, text);
            }
        }
    }

    private void addToken(String token, List<String> tokens, List<Integer> places, StringBuilder text) {
        boolean grows = text.length() > 0 && Character.isLetter(text.charAt(text.length() - 1));
        int blanks = oneIn(4) ? among(1, oneIn(30) ? 90 : 3) : 0;
        for (int i = 0; i < blanks || i == 0 && grows && Character.isLetter(token.charAt(0)); i++) {
            text.append(oneIn(2) ? ' ' : '\n');
        }
        tokens.add(token);
        places.add(text.length());
        text.append(token);
    }

    /** 1000 times the kind, and the place; -1 without a FAULT. A text that was cut at 240 is far over 200. */
    private static int firstFault(List<String> tokens, List<Integer> places, String text) {
        StringBuilder signs = new StringBuilder();
        for (int i = 0; i < tokens.size() && places.get(i) < 200; i++) {
            String token = tokens.get(i);
            signs.append(Arrays.asList(SORTS).contains(token) ? "i" : token.length() > 1 ? "A" : token);
            Matcher matcher = GRAMMAR.matcher(signs);
            if (!matcher.matches() && !matcher.hitEnd()) {
                return 1000 + places.get(i);
            }
            String open = signs.substring(signs.lastIndexOf(";") + 1);
            long ended = signs.chars().filter(c -> c == ';').count();
            if (open.chars().filter(c -> c == 'i').count() > 6 || ended == 8 && !open.isEmpty()) {
                return 2000 + places.get(i);
            }
            if (token.equals(";") && signs.toString().matches("(.*;)?(i\\?)+;")) {
                return 3000 + places.get(i);
            }
        }
        if (text.length() > 200) {
            return 1200;
        }
        return GRAMMAR.matcher(signs).matches() ? -1 : 1000 + text.length();
    }

    private static int stops(List<String> tokens) {
        return (int) tokens.stream().filter(t -> t.equals(";")).count();
    }

    // ---- READINGS: every row of WORDS that has a letter for each PLACE

    private final List<String> words = new ArrayList<>();
    private final StringBuilder sortOfWord = new StringBuilder();
    private int leastCost = -1;
    private int rivals = 0;
    private String bestRow = "";
    private final List<List<Integer>> forms = List.of(new ArrayList<>(), new ArrayList<>(), new ArrayList<>());
    /** SEEN and GONE of each PLACE of the SCRAWL that is tried; none without a PHOTO. */
    private int[] marks = new int[0];
    private final String[] drawn = new String[2];
    private int[][] costs = new int[0][];

    private void readingsByTrial() {
        for (int i = 0; i < 7; i++) {
            int strokes = among(1, 31);
            if (x.form(i % 3, strokes) >= 0) {
                forms.get(i % 3).add(strokes);
            }
        }
        int many = among(4, 12);
        for (int i = 0; i < many; i++) {
            StringBuilder word = new StringBuilder();
            int length = among(1, 3);
            for (int k = 0; k < length; k++) {
                word.append((char) ('a' + random.nextInt(3)));
            }
            int sort = random.nextInt(5);
            if (Tell.word(x, word.toString(), sort) >= 0) {
                words.add(word.toString());
                sortOfWord.append(SIGNS.charAt(sort));
            }
        }
        x.habit(0, 0, 1);
        x.habit(1, 2, 0);
        x.wall(0, 1);
        for (int s = 0; s < 6; s++) {
            tryReading(s);
        }
    }

    private void tryReading(int s) {
        StringBuilder text = new StringBuilder();
        StringBuilder form = new StringBuilder();
        int patterns = among(1, 4);
        for (int p = 0; p < patterns; p++) {
            int items = among(1, 5);
            int needed = random.nextInt(items);
            form.append(p == 0 ? "" : "|");
            for (int i = 0; i < items; i++) {
                int sort = random.nextInt(5);
                String ask = i != needed && oneIn(2) ? "?" : "";
                text.append(SORTS[sort]).append(ask).append(' ');
                form.append(SIGNS.charAt(sort)).append(ask);
            }
            text.append(';');
        }
        CHECK.due("patterns of '" + text + "'", Tell.patterns(x, text.toString()), patterns);
        int places = among(1, 7);
        CHECK.due("scrawl", x.scrawl(0, 0, places), s);
        marks = new int[0];
        if (oneIn(2)) {
            photoOf(s, places);
        }
        for (int d = 0; d < 2; d++) {
            drawn[d] = ".".repeat(places);
            if (oneIn(2)) {
                drawingOf(s, d, places);
            }
        }
        leastCost = -1;
        rivals = 0;
        bestRow = "";
        tryCosts(s, places);
        tryRows("", "", 0, places, Pattern.compile(form.toString()));
        String call = " of " + words + " as " + sortOfWord + " by " + text;
        CHECK.due("COST" + call, x.reading(s, 0, 0), leastCost);
        CHECK.due("RIVALS" + call, x.reading(s, 0, 1), rivals == 0 ? -1 : Math.min(1000, rivals));
        CHECK.due("WORDS" + call, x.read(s, 0), bestRow.length());
        for (int i = 0; i < bestRow.length(); i++) {
            CHECK.due("WORD " + i + call, x.octet(i), bestRow.charAt(i) - 'A');
        }
        tryUsed(s);
    }

    private void tryCosts(int s, int places) {
        costs = new int[places][3];
        for (int p = 0; p < places; p++) {
            for (int letter = 0; letter < 3; letter++) {
                costs[p][letter] = letterCost(p, letter);
                CHECK.due("cost(" + s + ", " + p + ", " + letter + ")", x.cost(s, p, letter, 0), costs[p][letter]);
            }
        }
    }

    private boolean mayForm(int p, int form) {
        for (int stroke = 0; stroke < 8; stroke++) {
            boolean has = (form >> stroke & 1) == 1;
            boolean seen = (marks[2 * p] >> stroke & 1) == 1;
            boolean gone = (marks[2 * p + 1] >> stroke & 1) == 1;
            if (has != seen && !(has && gone)) {
                return false;
            }
        }
        return true;
    }

    private int letterCost(int p, int letter) {
        int total = marks.length == 0 ? 0 : 99;
        for (int form : forms.get(letter)) {
            if (marks.length > 0 && mayForm(p, form)) {
                total = Math.min(total, Integer.bitCount(form) - Integer.bitCount(marks[2 * p]));
            }
        }
        for (int d = 0; d < 2; d++) {
            int sign = drawn[d].charAt(p) - 'a';
            // the two HABITS that are told: DRAWER 0 may draw a as b, DRAWER 1 may draw c as a
            boolean habit = d == 0 && letter == 0 && sign == 1 || d == 1 && letter == 2 && sign == 0;
            total += drawn[d].charAt(p) == '.' || sign == letter ? 0 : habit ? 2 : 99;
        }
        return total >= 99 ? -1 : total;
    }

    /** Of each letter the FORMS that MAY be at all its PLACES, if it has any. */
    private void tryUsed(int s) {
        StringBuilder text = new StringBuilder();
        bestRow.chars().forEach(w -> text.append(words.get(w - 'A')));
        int many = 0;
        for (int letter = 0; letter < 3; letter++) {
            List<Integer> may = new ArrayList<>();
            for (int f = 0; f < forms.get(letter).size(); f++) {
                boolean all = marks.length > 0 && text.indexOf("" + (char) ('a' + letter)) >= 0;
                for (int p = 0; p < text.length() && all; p++) {
                    all = text.charAt(p) != 'a' + letter || mayForm(p, forms.get(letter).get(f));
                }
                if (all) {
                    may.add(f);
                }
            }
            many += may.size() == 1 ? 1 : 0;
            CHECK.due("used(" + s + ", " + letter + ")", x.used(s, letter, 0), may.size() == 1 ? may.get(0) : -1);
        }
        CHECK.due("reading(" + s + ", 0, 5)", x.reading(s, 0, 5), many);
    }

    private void photoOf(int s, int places) {
        marks = new int[2 * places];
        for (int p = 0; p < places; p++) {
            marks[2 * p] = random.nextInt(32) & random.nextInt(32) & random.nextInt(32);
            marks[2 * p + 1] = 255 & ~marks[2 * p] & (oneIn(3) ? random.nextInt(32) : 31);
        }
        CHECK.due("photo", Tell.photo(x, s, marks), true);
    }

    private void drawingOf(int s, int d, int places) {
        StringBuilder text = new StringBuilder();
        for (int p = 0; p < places; p++) {
            text.append("abc.....".charAt(random.nextInt(8)));
        }
        drawn[d] = text.toString();
        CHECK.due("drawing", Tell.drawing(x, s, d, drawn[d]), true);
    }

    /** By rising numbers, so that of rows of like COST the first is met first. */
    private void tryRows(String row, String sorts, int total, int left, Pattern form) {
        if (left == 0 && form.matcher(sorts).matches()) {
            if (leastCost < 0 || total < leastCost) {
                leastCost = total;
                rivals = 0;
                bestRow = row;
            }
            rivals += total == leastCost ? 1 : 0;
        }
        for (int w = 0; w < words.size() && row.length() < 6; w++) {
            int one = words.get(w).length() > left ? -1 : costOf(words.get(w), left);
            if (one >= 0) {
                tryRows(row + (char) ('A' + w), sorts + sortOfWord.charAt(w), total + one,
                        left - words.get(w).length(), form);
            }
        }
    }

    private int costOf(String word, int left) {
        int place = costs.length - left;
        int total = 0;
        for (int i = 0; i < word.length(); i++) {
            int one = costs[place + i][word.charAt(i) - 'a'];
            if (one < 0) {
                return -1;
            }
            total += one;
        }
        return total;
    }

    // ---- YEARS: every year for every LAYER and SCRAWL, in a window of four years

    private static final int FROM = 90;
    private static final int WIDE = 4;
    private static final int LAYERS = 3;
    private final List<int[]> facts = new ArrayList<>();
    private final List<String> texts = new ArrayList<>();
    private final List<Integer> layerOf = new ArrayList<>();

    private void yearsByTrial() {
        for (int i = 0; i < 6; i++) {
            Tell.word(x, "" + (char) ('a' + i), i < 2 ? 0 : i < 4 ? 2 : 3);
        }
        Tell.patterns(x, "name? office? thing? thing; name office?;");
        x.wall(0, LAYERS);
        for (int s = 0; s < 4; s++) {
            String text = oneIn(3) ? "a" : (char) among('a', 'b') + "" + (char) among('c', 'd')
                    + (oneIn(2) ? "" : (char) among('e', 'f') + (oneIn(2) ? "" : "e"));
            texts.add(text);
            layerOf.add(random.nextInt(LAYERS));
            CHECK.due("scrawl", x.scrawl(0, layerOf.get(s), text.length()), s);
            CHECK.due("drawing", Tell.drawing(x, s, 0, text), true);
            CHECK.due("read " + text, x.read(s, 0), text.length());
        }
        for (int i = 0; i < LAYERS + 4; i++) {
            tellFact(i < LAYERS ? 0 : 1, i < LAYERS ? 0 : i - LAYERS, i, FROM, FROM + WIDE - 1);
        }
        checkYears();
        for (int i = 0; i < 9; i++) {
            tellAnyFact();
            checkYears();
        }
    }

    private void tellFact(int kind, int a, int b, int from, int to) {
        CHECK.due("fact " + kind, x.fact(kind, a, b, from, to), facts.size());
        facts.add(new int[] {kind, a, b, from, to});
    }

    private void tellAnyFact() {
        int from = FROM + random.nextInt(WIDE);
        int to = among(from, FROM + WIDE - 1);
        int one = random.nextInt(4);
        switch (random.nextInt(7)) {
            case 0:
                tellFact(0, 0, random.nextInt(LAYERS), from, to);
                break;
            case 1:
                tellFact(1, one, 0, from, to);
                break;
            case 2:
            case 3:
                tellFact(2, one, (one + among(1, 3)) % 4, -7, 900);
                break;
            case 4:
            case 5:
                tellFact(3, random.nextInt(2), among(2, 3), oneIn(9) ? 5 : from, -1);
                break;
            default:
                tellFact(4, among(4, 5), 0, from, oneIn(2) ? from : to);
                break;
        }
    }

    private void checkYears() {
        int[] least = new int[LAYERS + 4];
        int[] greatest = new int[LAYERS + 4];
        boolean can = tryYears(facts.size(), least, greatest);
        for (int i = 0; i < LAYERS + 4; i++) {
            boolean isLayer = i < LAYERS;
            String call = (isLayer ? "laid of " + i : "span of " + (i - LAYERS)) + " by " + Arrays.deepToString(
                    facts.toArray()) + " for " + texts + " on " + layerOf;
            CHECK.due(call, isLayer ? x.laid(0, i, 0, false) : x.span(i - LAYERS, 0, false), can ? least[i] : -1);
            CHECK.due(call, isLayer ? x.laid(0, i, 0, true) : x.span(i - LAYERS, 0, true), can ? greatest[i] : -1);
        }
        int spoilt = -1;
        for (int f = 1; f <= facts.size() && !can && spoilt < 0; f++) {
            // ahead of the facts that set the window all years are free, and all can be
            spoilt = f >= LAYERS + 4 && !tryYears(f, new int[LAYERS + 4], new int[LAYERS + 4]) ? f - 1 : -1;
        }
        CHECK.due("spoilt by " + Arrays.deepToString(facts.toArray()), x.spoilt(0), spoilt);
    }

    private boolean tryYears(int known, int[] least, int[] greatest) {
        int[] years = new int[LAYERS + 4];
        boolean any = false;
        for (int row = 0; row < 1 << 2 * (LAYERS + 4); row++) {
            for (int i = 0; i < years.length; i++) {
                years[i] = FROM + (row >> 2 * i & 3);
            }
            if (allHolds(years, known)) {
                for (int i = 0; i < years.length; i++) {
                    least[i] = any ? Math.min(least[i], years[i]) : years[i];
                    greatest[i] = any ? Math.max(greatest[i], years[i]) : years[i];
                }
                any = true;
            }
        }
        return any;
    }

    private boolean allHolds(int[] years, int known) {
        for (int l = 1; l < LAYERS; l++) {
            if (years[l] < years[l - 1]) {
                return false;
            }
        }
        for (int s = 0; s < 4; s++) {
            int year = years[LAYERS + s];
            int layer = layerOf.get(s);
            if (year < years[layer] || layer + 1 < LAYERS && year > years[layer + 1] || !readingHolds(s, year, known)) {
                return false;
            }
        }
        for (int f = 0; f < known; f++) {
            int[] fact = facts.get(f);
            int year = fact[0] == 0 ? years[fact[2]] : fact[0] == 1 ? years[LAYERS + fact[1]] : FROM;
            if (fact[0] < 2 && (year < fact[3] || year > fact[4])
                    || fact[0] == 2 && years[LAYERS + fact[2]] < years[LAYERS + fact[1]]) {
                return false;
            }
        }
        return true;
    }

    private boolean readingHolds(int s, int year, int known) {
        for (int k = 0; k < texts.get(s).length(); k++) {
            int sign = texts.get(s).charAt(k) - 'a';
            boolean told = false;
            boolean holds = false;
            for (int f = 0; f < known; f++) {
                int[] fact = facts.get(f);
                boolean stood = fact[0] == 3 && k == 1 && fact[1] == texts.get(s).charAt(0) - 'a' && fact[2] == sign;
                boolean there = fact[0] == 4 && fact[1] == sign;
                told |= stood || there;
                holds |= stood && fact[3] == year || there && fact[3] <= year && year <= fact[4];
            }
            if (told && !holds) {
                return false;
            }
        }
        return true;
    }

    // ---- PERSONS: every PERSON for every SCRAWL; WALKS: every step from every CORNER

    private void personsByTrial() {
        for (int i = 0; i < 4; i++) {
            Tell.word(x, "" + (char) ('a' + i), i < 1 ? 0 : 1);
        }
        Tell.patterns(x, "name trade?;");
        int[][] ways = tellTown();
        int[] corners = new int[5];
        for (int w = 0; w < corners.length; w++) {
            corners[w] = random.nextInt(7);
            CHECK.due("wall", x.wall(corners[w], 1), w);
        }
        int many = among(1, 6);
        int[] from = new int[many];
        int[] to = new int[many];
        char[] trade = new char[many];
        int[] corner = new int[many];
        for (int s = 0; s < many; s++) {
            trade[s] = oneIn(2) ? '-' : (char) among('b', 'd');
            int wall = random.nextInt(corners.length);
            corner[s] = corners[wall];
            x.scrawl(wall, 0, trade[s] == '-' ? 1 : 2);
            CHECK.due("drawing", Tell.drawing(x, s, 0, trade[s] == '-' ? "a" : "a" + trade[s]), true);
            from[s] = 10 * random.nextInt(19);
            to[s] = from[s] + 10 * random.nextInt(Math.min(6, 19 - from[s] / 10)) + random.nextInt(10);
            CHECK.due("fact", x.fact(1, s, 0, from[s], to[s]), s);
        }
        int[] first = firstParting(many, from, to, trade);
        int fewest = Arrays.stream(first).max().orElse(-1) + 1;
        CHECK.due("persons", x.persons(0, 0), fewest);
        for (int s = 0; s < many; s++) {
            CHECK.due("person of " + s, x.person(s, 0), first[s]);
        }
        for (int p = 0; p < fewest; p++) {
            CHECK.due("walk of " + p, x.walk(0, p, 0), leastWalk(first, p, corner, ways));
        }
        CHECK.due("walk of nobody", x.walk(0, fewest, 0), -1);
    }

    private int[][] tellTown() {
        int[][] ways = new int[among(3, 10)][];
        for (int i = 0; i < ways.length; i++) {
            int a = random.nextInt(7);
            ways[i] = new int[] {a, (a + among(1, 6)) % 7, among(1, 99)};
            CHECK.due("street", x.street(ways[i][0], ways[i][1], ways[i][2]), true);
        }
        return ways;
    }

    /** All rows of numbers below the fewest, in order; with one more PERSON if none can be. */
    private static int[] firstParting(int many, int[] from, int[] to, char[] trade) {
        for (int most = 1; most <= many; most++) {
            long rows = Math.round(Math.pow(most, many));
            for (long row = 0; row < rows; row++) {
                int[] parting = new int[many];
                long rest = row;
                for (int s = many - 1; s >= 0; s--) {
                    parting[s] = (int) (rest % most);
                    rest /= most;
                }
                if (canBe(parting, from, to, trade)) {
                    return parting;
                }
            }
        }
        return new int[0];
    }

    private static boolean canBe(int[] parting, int[] from, int[] to, char[] trade) {
        for (int a = 0; a < parting.length; a++) {
            for (int b = 0; b < a; b++) {
                boolean trades = trade[a] != '-' && trade[b] != '-' && trade[a] != trade[b];
                boolean apart = from[a] > to[b] + 60 || from[b] > to[a] + 60;
                if (parting[a] == parting[b] && (trades || apart)) {
                    return false;
                }
            }
        }
        return true;
    }

    /** A walker is at a CORNER and has passed some: all that can be come to, with ever longer ways. */
    private static int leastWalk(int[] parting, int p, int[] corner, int[][] ways) {
        int all = 0;
        for (int s = 0; s < parting.length; s++) {
            all |= parting[s] == p ? 1 << corner[s] : 0;
        }
        int[][] shortest = new int[7][128];
        for (int c = 0; c < 7; c++) {
            Arrays.fill(shortest[c], 1 << 20);
            shortest[c][1 << c] = 0;
        }
        boolean goesOn = true;
        while (goesOn) {
            goesOn = false;
            for (int[] way : ways) {
                for (int passed = 0; passed < 128; passed++) {
                    goesOn |= step(shortest, way[0], way[1], way[2], passed);
                    goesOn |= step(shortest, way[1], way[0], way[2], passed);
                }
            }
        }
        int least = 1 << 20;
        for (int c = 0; c < 7; c++) {
            for (int passed = 0; passed < 128; passed++) {
                least = (passed & all) == all ? Math.min(least, shortest[c][passed]) : least;
            }
        }
        return least == 1 << 20 ? -2 : least;
    }

    private static boolean step(int[][] ways, int from, int to, int length, int passed) {
        int behind = passed | 1 << to;
        if (ways[from][passed] + length >= ways[to][behind]) {
            return false;
        }
        ways[to][behind] = ways[from][passed] + length;
        return true;
    }
}

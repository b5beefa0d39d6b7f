import java.util.ArrayList;
import java.util.Arrays;
import java.util.HashSet;
import java.util.LinkedHashSet;
import java.util.List;
import java.util.NoSuchElementException;
import java.util.Set;
import java.util.TreeSet;

/** The document once more, in other and slower ways than the program's, to hold random runs against it. */
final class Oracle {
    private static final List<String> SORTS = List.of("name", "trade", "office", "thing", "other");

    private record Word(String letters, int sort) { }

    private record Wall(int corner, int layers) { }

    private record Habit(int drawer, int letter, int drawn) { }

    private record Scrawl(int wall, int layer, int places, int day) { }

    private record Photo(int scrawl, int day, int[] marks) { }

    private record Drawing(int scrawl, int drawer, int day, String letters) { }

    private record Fact(int kind, int a, int b, int from, int to, int day) { }

    private record Token(String text, int place) { }

    private record Item(int sort, boolean optional) { }

    private static final class Best {
        int cost = -1;
        long rivals = 0;
        List<Integer> words = List.of();
    }

    private final List<Integer> tape = new ArrayList<>();
    private final List<List<Integer>> forms = new ArrayList<>();
    private final List<Word> words = new ArrayList<>();
    private final List<int[]> streets = new ArrayList<>();
    private final List<Wall> walls = new ArrayList<>();
    private final Set<Habit> habits = new HashSet<>();
    private final List<Scrawl> scrawls = new ArrayList<>();
    private final List<Photo> photos = new ArrayList<>();
    private final List<Drawing> drawings = new ArrayList<>();
    private final List<Fact> facts = new ArrayList<>();
    private List<List<Item>> patterns = new ArrayList<>();
    private List<Integer> out = List.of();
    private int today = 0;
    private int faultKind = 0;

    Oracle() {
        for (int i = 0; i < 26; i++) {
            forms.add(new ArrayList<>());
        }
    }

    int feed(int a, int b, int c, int d, int e) {
        if (tape.size() > 220) {
            return -1;
        }
        for (int number : new int[] {a, b, c, d, e}) {
            tape.add(number >>> 24);
            tape.add(number >>> 16 & 255);
            tape.add(number >>> 8 & 255);
            tape.add(number & 255);
        }
        return tape.size();
    }

    boolean end(int n) {
        if (n < 0 || n > tape.size()) {
            return false;
        }
        tape.subList(n, tape.size()).clear();
        return true;
    }

    int next(int n) {
        if (n < 0 || n > 999 || today + n > 999) {
            return -1;
        }
        return today += n;
    }

    int form(int letter, int strokes) {
        if (letter < 0 || letter > 25 || strokes < 1 || strokes > 255) {
            return -1;
        }
        List<Integer> own = forms.get(letter);
        if (own.size() == 3 || own.contains(strokes)) {
            return -1;
        }
        own.add(strokes);
        return own.size() - 1;
    }

    private String takeTape() {
        StringBuilder text = new StringBuilder();
        for (int b : tape) {
            text.append((char) b);
        }
        tape.clear();
        return text.toString();
    }

    int word(int sort) {
        String text = takeTape();
        Word one = new Word(text, sort);
        if (words.size() == 80 || sort < 0 || sort > 4 || !text.matches("[a-z]{1,10}") || words.contains(one)) {
            return -1;
        }
        words.add(one);
        return words.size() - 1;
    }

    boolean street(int a, int b, int length) {
        if (streets.size() == 30 || a == b || Math.min(a, b) < 0 || Math.max(a, b) > 11 || length < 1 || length > 99) {
            return false;
        }
        return streets.add(new int[] {a, b, length});
    }

    int wall(int corner, int layers) {
        if (walls.size() == 8 || corner < 0 || corner > 11 || layers < 1 || layers > 4) {
            return -1;
        }
        walls.add(new Wall(corner, layers));
        return walls.size() - 1;
    }

    int habit(int d, int letter, int drawn) {
        if (d < 0 || d > 3 || letter < 0 || letter > 25 || drawn < 0 || drawn > 25 || letter == drawn) {
            return -1;
        }
        Habit one = new Habit(d, letter, drawn);
        long many = habits.stream().filter(h -> h.drawer == d).count();
        if (many == 12 || !habits.add(one)) {
            return -1;
        }
        return (int) many + 1;
    }

    private static List<Token> tokens(String text) {
        List<Token> found = new ArrayList<>();
        int i = 0;
        while (i < text.length()) {
            int j = i;
            while (j < text.length() && text.charAt(j) >= 'a' && text.charAt(j) <= 'z') {
                j++;
            }
            if (j == i) {
                j++;
            }
            String token = text.substring(i, j);
            if (!token.equals(" ") && !token.equals("\n")) {
                found.add(new Token(token, i));
            }
            i = j;
        }
        return found;
    }

    int patterns() {
        String text = takeTape();
        List<List<Item>> draft = new ArrayList<>();
        List<Item> open = new ArrayList<>();
        String before = ";";
        for (Token token : tokens(text)) {
            if (token.place >= 200) {
                break;
            }
            int kind = 0;
            if (token.text.equals("?")) {
                if (!SORTS.contains(before)) {
                    kind = 1;
                } else {
                    open.set(open.size() - 1, new Item(open.get(open.size() - 1).sort, true));
                }
            } else if (token.text.equals(";")) {
                if (before.equals(";")) {
                    kind = 1;
                } else if (open.stream().allMatch(Item::optional)) {
                    kind = 3;
                } else {
                    draft.add(open);
                    open = new ArrayList<>();
                }
            } else if (!SORTS.contains(token.text)) {
                kind = 1;
            } else if (open.size() == 6 || draft.size() == 8) {
                kind = 2;
            } else {
                open.add(new Item(SORTS.indexOf(token.text), false));
            }
            if (kind != 0) {
                faultKind = kind;
                return -1 - token.place;
            }
            before = token.text;
        }
        if (text.length() > 200 || !open.isEmpty()) {
            faultKind = 1;
            return -1 - Math.min(200, text.length());
        }
        faultKind = 0;
        patterns = draft;
        return patterns.size();
    }

    int fault() {
        return faultKind;
    }

    int scrawl(int wall, int layer, int places) {
        if (scrawls.size() == 20 || !isLayer(wall, layer) || places < 1 || places > 24) {
            return -1;
        }
        scrawls.add(new Scrawl(wall, layer, places, today));
        return scrawls.size() - 1;
    }

    private boolean isLayer(int wall, int layer) {
        return wall >= 0 && wall < walls.size() && layer >= 0 && layer < walls.get(wall).layers;
    }

    boolean photo(int s) {
        int[] marks = tape.stream().mapToInt(b -> b).toArray();
        tape.clear();
        if (s < 0 || s >= scrawls.size() || photos.size() == 60 || marks.length != 2 * scrawls.get(s).places) {
            return false;
        }
        for (int i = 0; i < marks.length; i += 2) {
            if ((marks[i] & marks[i + 1]) != 0) {
                return false;
            }
        }
        return photos.add(new Photo(s, today, marks));
    }

    boolean drawing(int s, int d) {
        String text = takeTape();
        if (s < 0 || s >= scrawls.size() || d < 0 || d > 3 || drawings.size() == 40) {
            return false;
        }
        if (text.length() != scrawls.get(s).places || !text.matches("[a-z.]*")) {
            return false;
        }
        return drawings.add(new Drawing(s, d, today, text));
    }

    private boolean isKnown(int s, int t) {
        return s >= 0 && s < scrawls.size() && scrawls.get(s).day <= t;
    }

    private Photo photoOf(int s, int t) {
        Photo last = null;
        for (Photo one : photos) {
            if (one.scrawl == s && one.day <= t) {
                last = one;
            }
        }
        return last;
    }

    private List<Drawing> drawingsOf(int s, int t) {
        Drawing[] last = new Drawing[4];
        for (Drawing one : drawings) {
            if (one.scrawl == s && one.day <= t) {
                last[one.drawer] = one;
            }
        }
        List<Drawing> counting = new ArrayList<>();
        for (Drawing one : last) {
            if (one != null) {
                counting.add(one);
            }
        }
        return counting;
    }

    private static boolean mayBe(int form, int seen, int gone) {
        for (int stroke = 1; stroke < 256; stroke *= 2) {
            boolean has = (form & stroke) != 0;
            boolean isSeen = (seen & stroke) != 0;
            boolean isGone = (gone & stroke) != 0;
            if (isSeen && !has || has && !isSeen && !isGone) {
                return false;
            }
        }
        return true;
    }

    private int letterCost(Photo photo, List<Drawing> drawn, int place, int letter) {
        int total = 0;
        if (photo != null) {
            total = Integer.MAX_VALUE;
            for (int form : forms.get(letter)) {
                if (mayBe(form, photo.marks[2 * place], photo.marks[2 * place + 1])) {
                    total = Math.min(total, Integer.bitCount(form) - Integer.bitCount(photo.marks[2 * place]));
                }
            }
            if (total == Integer.MAX_VALUE) {
                return -1;
            }
        }
        for (Drawing one : drawn) {
            char sign = one.letters.charAt(place);
            if (sign != '.' && sign - 'a' != letter) {
                if (!habits.contains(new Habit(one.drawer, letter, sign - 'a'))) {
                    return -1;
                }
                total += 2;
            }
        }
        return total;
    }

    int cost(int s, int place, int letter, int t) {
        if (!isKnown(s, t) || place < 0 || place >= scrawls.get(s).places || letter < 0 || letter > 25) {
            return -2;
        }
        return letterCost(photoOf(s, t), drawingsOf(s, t), place, letter);
    }

    private Set<List<Integer>> rowsOfSorts() {
        Set<List<Integer>> rows = new LinkedHashSet<>();
        for (List<Item> pattern : patterns) {
            for (int left = 0; left < 1 << pattern.size(); left++) {
                List<Integer> row = new ArrayList<>();
                boolean may = true;
                for (int i = 0; i < pattern.size(); i++) {
                    if ((left >> i & 1) == 0) {
                        row.add(pattern.get(i).sort);
                    } else {
                        may = may && pattern.get(i).optional;
                    }
                }
                if (may) {
                    rows.add(row);
                }
            }
        }
        return rows;
    }

    private Best best(int s, int t) {
        int places = scrawls.get(s).places;
        Photo photo = photoOf(s, t);
        List<Drawing> drawn = drawingsOf(s, t);
        int[][] wordCosts = new int[words.size()][places];
        for (int w = 0; w < words.size(); w++) {
            for (int p = 0; p < places; p++) {
                wordCosts[w][p] = wordCost(photo, drawn, w, p, places);
            }
        }
        Best all = new Best();
        for (List<Integer> row : rowsOfSorts()) {
            Best one = bestFrom(row, 0, 0, places, wordCosts, new Best[row.size() + 1][places + 1]);
            if (one.cost < 0 || all.cost >= 0 && one.cost > all.cost) {
                continue;
            }
            if (all.cost < 0 || one.cost < all.cost) {
                all = one;
                continue;
            }
            Best both = new Best();
            both.cost = all.cost;
            both.rivals = all.rivals + one.rivals;
            both.words = isAhead(one.words, all.words) ? one.words : all.words;
            all = both;
        }
        return all;
    }

    private static boolean isAhead(List<Integer> a, List<Integer> b) {
        for (int i = 0; i < Math.min(a.size(), b.size()); i++) {
            if (!a.get(i).equals(b.get(i))) {
                return a.get(i) < b.get(i);
            }
        }
        return false;
    }

    private int wordCost(Photo photo, List<Drawing> drawn, int w, int place, int places) {
        String letters = words.get(w).letters;
        if (place + letters.length() > places) {
            return -1;
        }
        int total = 0;
        for (int i = 0; i < letters.length(); i++) {
            int one = letterCost(photo, drawn, place + i, letters.charAt(i) - 'a');
            if (one < 0) {
                return -1;
            }
            total += one;
        }
        return total;
    }

    private Best bestFrom(List<Integer> row, int i, int place, int places, int[][] wordCosts, Best[][] memo) {
        if (memo[i][place] != null) {
            return memo[i][place];
        }
        Best all = new Best();
        if (i == row.size()) {
            if (place == places) {
                all.cost = 0;
                all.rivals = 1;
            }
        } else if (place < places) {
            for (int w = 0; w < words.size(); w++) {
                if (words.get(w).sort != row.get(i) || wordCosts[w][place] < 0) {
                    continue;
                }
                int behind = place + words.get(w).letters.length();
                Best rest = bestFrom(row, i + 1, behind, places, wordCosts, memo);
                int total = wordCosts[w][place] + rest.cost;
                if (rest.cost < 0 || all.cost >= 0 && total > all.cost) {
                    continue;
                }
                if (all.cost < 0 || total < all.cost) {
                    all.cost = total;
                    all.rivals = 0;
                    all.words = new ArrayList<>(List.of(w));
                    all.words.addAll(rest.words);
                }
                all.rivals += rest.rivals;
            }
        }
        memo[i][place] = all;
        return all;
    }

    int read(int s, int t) {
        if (!isKnown(s, t)) {
            return -1;
        }
        Best one = best(s, t);
        if (one.cost < 0) {
            return 0;
        }
        out = one.words;
        return out.size();
    }

    int octet(int k) {
        if (k < 0 || k >= out.size()) {
            throw new NoSuchElementException();
        }
        return out.get(k);
    }

    private int firstOf(Best one, int sort) {
        for (int w : one.words) {
            if (words.get(w).sort == sort) {
                return w;
            }
        }
        return -1;
    }

    private int[] usedForms(int s, Best one, int t) {
        int[] used = new int[26];
        Arrays.fill(used, -1);
        Photo photo = photoOf(s, t);
        if (photo == null || one.cost < 0) {
            return used;
        }
        StringBuilder text = new StringBuilder();
        for (int w : one.words) {
            text.append(words.get(w).letters);
        }
        for (int letter = 0; letter < 26; letter++) {
            if (text.indexOf("" + (char) ('a' + letter)) < 0) {
                continue;
            }
            List<Integer> may = new ArrayList<>();
            for (int f = 0; f < forms.get(letter).size(); f++) {
                boolean all = true;
                for (int p = 0; p < text.length(); p++) {
                    if (text.charAt(p) - 'a' == letter) {
                        all = all && mayBe(forms.get(letter).get(f), photo.marks[2 * p], photo.marks[2 * p + 1]);
                    }
                }
                if (all) {
                    may.add(f);
                }
            }
            used[letter] = may.size() == 1 ? may.get(0) : -1;
        }
        return used;
    }

    private static int many(int[] used) {
        return (int) Arrays.stream(used).filter(f -> f >= 0).count();
    }

    int reading(int s, int t, int what) {
        if (!isKnown(s, t)) {
            return -1;
        }
        Best one = best(s, t);
        if (what == 5) {
            return many(usedForms(s, one, t));
        }
        if (one.cost < 0 || what < 0 || what > 5) {
            return -1;
        }
        if (what == 0) {
            return one.cost;
        }
        return what == 1 ? (int) Math.min(1000, one.rivals) : firstOf(one, what - 2);
    }

    int used(int s, int letter, int t) {
        if (!isKnown(s, t) || letter < 0 || letter > 25) {
            return -1;
        }
        return usedForms(s, best(s, t), t)[letter];
    }

    int agree(int a, int b, int t) {
        if (!isKnown(a, t) || !isKnown(b, t)) {
            return 0;
        }
        return compare(usedForms(a, best(a, t), t), usedForms(b, best(b, t), t));
    }

    private static int compare(int[] a, int[] b) {
        int alike = 0;
        int unlike = 0;
        for (int letter = 0; letter < 26; letter++) {
            if (a[letter] >= 0 && b[letter] >= 0) {
                alike += a[letter] == b[letter] ? 1 : 0;
                unlike += a[letter] == b[letter] ? 0 : 1;
            }
        }
        return unlike > 0 ? -1 - unlike : alike;
    }

    int hand(int s, int t) {
        if (!isKnown(s, t)) {
            return -1;
        }
        List<TreeSet<Integer>> spans = spans(t, facts.size());
        List<List<Integer>> hands = new ArrayList<>();
        int[][] used = new int[scrawls.size()][];
        for (int i = 0; i <= s; i++) {
            used[i] = usedForms(i, best(i, t), t);
            if (many(used[i]) == 0) {
                if (i == s) {
                    return -1;
                }
                continue;
            }
            int h = 0;
            while (h < hands.size()) {
                boolean may = true;
                boolean alike = false;
                for (int o : hands.get(h)) {
                    int c = compare(used[i], used[o]);
                    may = may && c >= 0 && !areApart(spans, i, o);
                    alike = alike || c >= 2;
                }
                if (may && alike) {
                    break;
                }
                h++;
            }
            if (h == hands.size()) {
                hands.add(new ArrayList<>());
            }
            hands.get(h).add(i);
            if (i == s) {
                return h;
            }
        }
        return -1;
    }

    private boolean isSort(int w, int sort) {
        return w >= 0 && w < words.size() && words.get(w).sort == sort;
    }

    int fact(int kind, int a, int b, int from, int to) {
        boolean isScrawl = a >= 0 && a < scrawls.size();
        boolean told = kind == 0 && isLayer(a, b) || kind == 1 && isScrawl
                || kind == 2 && isScrawl && b >= 0 && b < scrawls.size() && a != b
                || kind == 3 && isSort(a, 0) && isSort(b, 2) || kind == 4 && isSort(a, 3);
        if (!told) {
            return -2;
        }
        boolean years = kind == 2 || kind == 3 && from >= 0 && from <= 199
                || kind != 3 && from >= 0 && from <= to && to <= 199;
        if (!years) {
            return -3;
        }
        if (facts.size() == 80) {
            return -4;
        }
        facts.add(new Fact(kind, a, b, from, to, today));
        return facts.size() - 1;
    }

    /** The years that each SCRAWL (its number) and LAYER (100 + 4 a WALL) may have; null if it can't be. */
    private List<TreeSet<Integer>> spans(int t, int firstFacts) {
        List<TreeSet<Integer>> years = new ArrayList<>();
        for (int i = 0; i < 140; i++) {
            years.add(new TreeSet<>());
            for (int y = 0; y < 200; y++) {
                years.get(i).add(y);
            }
        }
        List<int[]> notAhead = new ArrayList<>();
        for (int w = 0; w < walls.size(); w++) {
            for (int l = 1; l < walls.get(w).layers; l++) {
                notAhead.add(new int[] {100 + 4 * w + l - 1, 100 + 4 * w + l});
            }
        }
        for (int s = 0; s < scrawls.size(); s++) {
            if (isKnown(s, t)) {
                Scrawl one = scrawls.get(s);
                notAhead.add(new int[] {100 + 4 * one.wall + one.layer, s});
                if (one.layer + 1 < walls.get(one.wall).layers) {
                    notAhead.add(new int[] {s, 100 + 4 * one.wall + one.layer + 1});
                }
            }
        }
        List<Fact> known = new ArrayList<>();
        for (Fact one : facts.subList(0, firstFacts)) {
            if (one.day <= t) {
                known.add(one);
            }
        }
        for (Fact one : known) {
            if (one.kind <= 1) {
                int who = one.kind == 1 ? one.a : 100 + 4 * one.a + one.b;
                years.get(who).removeIf(y -> y < one.from || y > one.to);
            } else if (one.kind == 2) {
                notAhead.add(new int[] {one.a, one.b});
            }
        }
        for (int s = 0; s < scrawls.size(); s++) {
            if (isKnown(s, t)) {
                holdByReading(years.get(s), best(s, t), known);
            }
        }
        return narrow(years, notAhead) ? years : null;
    }

    private void holdByReading(TreeSet<Integer> years, Best one, List<Fact> known) {
        int name = firstOf(one, 0);
        int office = firstOf(one, 2);
        Set<Integer> stood = new HashSet<>();
        for (Fact f : known) {
            if (f.kind == 3 && f.a == name && f.b == office) {
                stood.add(f.from);
            }
        }
        if (!stood.isEmpty()) {
            years.retainAll(stood);
        }
        for (int w : one.words) {
            Set<Integer> there = new HashSet<>();
            for (Fact f : known) {
                for (int y = f.from; f.kind == 4 && f.a == w && y <= f.to; y++) {
                    there.add(y);
                }
            }
            if (!there.isEmpty()) {
                years.retainAll(there);
            }
        }
    }

    /** Takes years away that no year of another goes with, until all go. */
    private static boolean narrow(List<TreeSet<Integer>> years, List<int[]> notAhead) {
        boolean goesOn = true;
        while (goesOn) {
            goesOn = false;
            for (TreeSet<Integer> one : years) {
                if (one.isEmpty()) {
                    return false;
                }
            }
            for (int[] pair : notAhead) {
                TreeSet<Integer> first = years.get(pair[0]);
                TreeSet<Integer> second = years.get(pair[1]);
                if (!first.isEmpty() && !second.isEmpty()) {
                    goesOn |= second.removeIf(y -> y < first.first());
                }
                if (!first.isEmpty() && !second.isEmpty()) {
                    goesOn |= first.removeIf(y -> y > second.last());
                }
            }
            for (TreeSet<Integer> one : years) {
                goesOn |= one.isEmpty();
            }
        }
        return true;
    }

    private static boolean areApart(List<TreeSet<Integer>> spans, int a, int b) {
        return spans != null && (spans.get(a).first() - spans.get(b).last() > 60
                || spans.get(b).first() - spans.get(a).last() > 60);
    }

    private int endOf(int t, int who, boolean most) {
        List<TreeSet<Integer>> spans = spans(t, facts.size());
        if (spans == null) {
            return -1;
        }
        return most ? spans.get(who).last() : spans.get(who).first();
    }

    int span(int s, int t, boolean most) {
        return isKnown(s, t) ? endOf(t, s, most) : -1;
    }

    int laid(int wall, int layer, int t, boolean most) {
        return isLayer(wall, layer) ? endOf(t, 100 + 4 * wall + layer, most) : -1;
    }

    int spoilt(int t) {
        if (spans(t, facts.size()) != null) {
            return -1;
        }
        for (int f = 0; f < facts.size(); f++) {
            if (facts.get(f).day <= t && spans(t, f + 1) == null) {
                return f;
            }
        }
        return -1;
    }

    private List<Integer> members(int name, int t) {
        List<Integer> found = new ArrayList<>();
        for (int s = 0; s < scrawls.size() && found.size() < 10; s++) {
            if (isKnown(s, t) && firstOf(best(s, t), 0) == name) {
                found.add(s);
            }
        }
        return found;
    }

    /** Of each member its PERSON: all partings are looked at, in order, with ever more PERSONS. */
    private int[] parting(List<Integer> members, int t) {
        int n = members.size();
        List<TreeSet<Integer>> spans = spans(t, facts.size());
        boolean[][] unlike = new boolean[n][n];
        for (int i = 0; i < n; i++) {
            for (int k = 0; k < n; k++) {
                int a = firstOf(best(members.get(i), t), 1);
                int b = firstOf(best(members.get(k), t), 1);
                unlike[i][k] = a >= 0 && b >= 0 && a != b || areApart(spans, members.get(i), members.get(k));
            }
        }
        for (int most = 1; most <= n; most++) {
            int[] parts = new int[n];
            int i = 0;
            parts[0] = -1;
            while (i >= 0) {
                parts[i]++;
                if (parts[i] == most) {
                    i--;
                    continue;
                }
                boolean may = true;
                for (int k = 0; k < i; k++) {
                    may = may && !(unlike[i][k] && parts[i] == parts[k]);
                }
                if (may && i == n - 1) {
                    return parts;
                }
                if (may) {
                    i++;
                    parts[i] = -1;
                }
            }
        }
        return new int[0];
    }

    int persons(int name, int t) {
        if (!isSort(name, 0)) {
            return -1;
        }
        return Arrays.stream(parting(members(name, t), t)).max().orElse(-1) + 1;
    }

    int person(int s, int t) {
        if (!isKnown(s, t)) {
            return -1;
        }
        int name = firstOf(best(s, t), 0);
        if (name < 0) {
            return -1;
        }
        List<Integer> members = members(name, t);
        int i = members.indexOf(s);
        return i < 0 ? -1 : parting(members, t)[i];
    }

    int walk(int name, int person, int t) {
        if (!isSort(name, 0)) {
            return -1;
        }
        List<Integer> members = members(name, t);
        int[] parts = parting(members, t);
        Set<Integer> corners = new TreeSet<>();
        for (int i = 0; i < parts.length; i++) {
            if (parts[i] == person) {
                corners.add(walls.get(scrawls.get(members.get(i)).wall).corner);
            }
        }
        if (corners.isEmpty()) {
            return -1;
        }
        int least = Integer.MAX_VALUE;
        int[][] ways = ways();
        for (int first : corners) {
            least = Math.min(least, leastWay(first, new ArrayList<>(corners), ways));
        }
        return least >= 1000000 ? -2 : least;
    }

    private static int leastWay(int from, List<Integer> corners, int[][] ways) {
        List<Integer> rest = new ArrayList<>(corners);
        rest.remove(Integer.valueOf(from));
        int least = rest.isEmpty() ? 0 : Integer.MAX_VALUE;
        for (int next : rest) {
            least = Math.min(least, ways[from][next] + leastWay(next, rest, ways));
        }
        return least;
    }

    private int[][] ways() {
        int[][] ways = new int[12][12];
        for (int i = 0; i < 12; i++) {
            Arrays.fill(ways[i], 1000000);
            ways[i][i] = 0;
        }
        for (int[] one : streets) {
            ways[one[0]][one[1]] = Math.min(ways[one[0]][one[1]], one[2]);
            ways[one[1]][one[0]] = Math.min(ways[one[1]][one[0]], one[2]);
        }
        for (int k = 0; k < 12; k++) {
            for (int i = 0; i < 12; i++) {
                for (int j = 0; j < 12; j++) {
                    ways[i][j] = Math.min(ways[i][j], ways[i][k] + ways[k][j]);
                }
            }
        }
        return ways;
    }

    int count(int what) {
        int[] counts = {today, words.size(), streets.size(), walls.size(), patterns.size(), scrawls.size(),
            photos.size(), drawings.size(), facts.size(), tape.size(), out.size()};
        return what < 0 || what >= counts.length ? -1 : counts[what];
    }
}

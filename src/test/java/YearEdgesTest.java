/** The edges that the document names of FACTS, SPANS and SPOILT: promises 22 to 25. */
public final class YearEdgesTest {
    private static final Check CHECK = new Check();
    private static final int MIN = Integer.MIN_VALUE;
    private static final int MAX = Integer.MAX_VALUE;
    private static final int MARK = 0;
    private static final int LUCIUS = 1;
    private static final int AEDILE = 2;
    private static final int DUUMVIR = 3;
    private static final int LAMP = 4;
    private static final int SHIP = 5;
    private static final int BAKER = 6;
    private static final int OTHER = 7;
    private static final int[] ODD = {-1, 8, 80, MIN, MAX};

    public static void main(String[] args) {
        kinds();
        factsOfLayers();
        factsOfScrawls();
        answersToldWrong();
        factsOfWords();
        years();
        anyNumbers();
        factsFull();
        spanOfNoneSuch();
        layersInOrder();
        scrawlsBetweenLayers();
        limits();
        answers();
        heldAlongLayers();
        heldAlongAnswers();
        stood();
        stoodFirstOfEach();
        things();
        sixThings();
        readOtherwise();
        cantBe();
        spoiltFirst();
        spoiltLast();
        spoiltAsOf();
        factsAsOf();
        CHECK.finishEdges(22, 23, 24, 25);
    }

    /** WALLS 0 of 4 LAYERS, 1 of 1; SCRAWLS as the tests tell them. */
    private static ScrawlHouse house() {
        ScrawlHouse x = new ScrawlHouse();
        String[] texts = {"m", "l", "a", "d", "p", "s", "b", "x"};
        int[] sorts = {0, 0, 2, 2, 3, 3, 1, 4};
        for (int i = 0; i < texts.length; i++) {
            Tell.word(x, texts[i], sorts[i]);
        }
        Tell.patterns(x, "name name? trade? office? office? thing?; thing thing? thing?; office name; other;");
        x.wall(0, 4);
        x.wall(0, 1);
        return x;
    }

    private static int scrawl(ScrawlHouse x, int wall, int layer, String letters) {
        int s = x.scrawl(wall, layer, letters.length());
        Tell.drawing(x, s, 0, letters);
        return s;
    }

    private static int scrawl(ScrawlHouse x, String letters) {
        return scrawl(x, 1, 0, letters);
    }

    private static void spans(ScrawlHouse x, String call, int s, int least, int greatest) {
        CHECK.due(call + ", least", x.span(s, 999, false), least);
        CHECK.due(call + ", greatest", x.span(s, 999, true), greatest);
    }

    private static void lays(ScrawlHouse x, String call, int layer, int least, int greatest) {
        CHECK.due(call + ", least", x.laid(0, layer, 999, false), least);
        CHECK.due(call + ", greatest", x.laid(0, layer, 999, true), greatest);
    }

    private static void kinds() {
        CHECK.promise(22, "-1 less 1: no such kind");
        ScrawlHouse x = house();
        scrawl(x, "m");
        int[] noKinds = {-1, 5, MIN, MAX};
        for (int kind : noKinds) {
            CHECK.due("kind " + kind, x.fact(kind, 0, 0, 0, 0), -2);
        }
        CHECK.due("count(8)", x.count(8), 0);
    }

    private static void factsOfLayers() {
        CHECK.promise(22, "0 a a WALL, b a LAYER of it");
        ScrawlHouse x = house();
        for (int odd : ODD) {
            CHECK.due("wall " + odd, x.fact(0, odd, 0, 0, 0), -2);
            CHECK.due("layer " + odd, x.fact(0, 0, odd, 0, 0), -2);
        }
        CHECK.due("wall 2", x.fact(0, 2, 0, 0, 0), -2);
        CHECK.due("layer 4 of 4", x.fact(0, 0, 4, 0, 0), -2);
        CHECK.due("layer 1 of 1", x.fact(0, 1, 1, 0, 0), -2);
        CHECK.due("layer 3 of 4", x.fact(0, 0, 3, 0, 0), 0);
        CHECK.due("layer 0 of 1", x.fact(0, 1, 0, 0, 0), 1);
    }

    private static void factsOfScrawls() {
        CHECK.promise(22, "1 a a SCRAWL (b any)");
        ScrawlHouse x = house();
        CHECK.due("no scrawl yet", x.fact(1, 0, 0, 0, 0), -2);
        scrawl(x, "m");
        for (int odd : ODD) {
            CHECK.due("scrawl " + odd, x.fact(1, odd, 0, 0, 0), -2);
        }
        CHECK.due("scrawl 1", x.fact(1, 1, 0, 0, 0), -2);
        for (int i = 0; i < ODD.length; i++) {
            CHECK.due("b " + ODD[i], x.fact(1, 0, ODD[i], 0, 0), i);
        }
    }

    private static void answersToldWrong() {
        CHECK.promise(22, "2 a, b SCRAWLS, unlike");
        ScrawlHouse x = house();
        scrawl(x, "m");
        scrawl(x, "m");
        for (int odd : ODD) {
            CHECK.due("a " + odd, x.fact(2, odd, 1, 0, 0), -2);
            CHECK.due("b " + odd, x.fact(2, 0, odd, 0, 0), -2);
        }
        CHECK.due("b 2", x.fact(2, 0, 2, 0, 0), -2);
        CHECK.due("alike, 0", x.fact(2, 0, 0, 0, 0), -2);
        CHECK.due("alike, 1", x.fact(2, 1, 1, 0, 0), -2);
        CHECK.due("unlike", x.fact(2, 0, 1, 0, 0), 0);
        CHECK.due("the other way", x.fact(2, 1, 0, 0, 0), 1);
    }

    private static void factsOfWords() {
        ScrawlHouse x = house();
        CHECK.promise(22, "3 a a name, b an office");
        for (int odd : ODD) {
            CHECK.due("name " + odd, x.fact(3, odd, AEDILE, 0, 0), -2);
            CHECK.due("office " + odd, x.fact(3, MARK, odd, 0, 0), -2);
        }
        int[] noNames = {AEDILE, LAMP, BAKER, OTHER};
        for (int word : noNames) {
            CHECK.due("name " + word, x.fact(3, word, AEDILE, 0, 0), -2);
        }
        int[] noOffices = {MARK, LAMP, BAKER, OTHER};
        for (int word : noOffices) {
            CHECK.due("office " + word, x.fact(3, MARK, word, 0, 0), -2);
        }
        CHECK.due("the other way round", x.fact(3, AEDILE, MARK, 0, 0), -2);
        CHECK.due("right", x.fact(3, LUCIUS, DUUMVIR, 0, 0), 0);
        CHECK.promise(22, "4 a a thing (b any)");
        for (int odd : ODD) {
            CHECK.due("thing " + odd, x.fact(4, odd, 0, 0, 0), -2);
        }
        int[] noThings = {MARK, AEDILE, BAKER, OTHER};
        for (int word : noThings) {
            CHECK.due("thing " + word, x.fact(4, word, 0, 0, 0), -2);
        }
        for (int i = 0; i < ODD.length; i++) {
            CHECK.due("b " + ODD[i], x.fact(4, SHIP, ODD[i], 0, 0), 1 + i);
        }
    }

    private static void years() {
        CHECK.promise(22, "-1 less 2: 0 <= from <= to <= 199");
        ScrawlHouse x = house();
        scrawl(x, "m");
        int[] kinds = {0, 1, 4};
        int[] a = {0, 0, LAMP};
        for (int i = 0; i < 3; i++) {
            CHECK.due(kinds[i] + ": from -1", x.fact(kinds[i], a[i], 0, -1, 5), -3);
            CHECK.due(kinds[i] + ": both -1", x.fact(kinds[i], a[i], 0, -1, -1), -3);
            CHECK.due(kinds[i] + ": from MIN", x.fact(kinds[i], a[i], 0, MIN, 5), -3);
            CHECK.due(kinds[i] + ": from behind to", x.fact(kinds[i], a[i], 0, 6, 5), -3);
            CHECK.due(kinds[i] + ": to 200", x.fact(kinds[i], a[i], 0, 0, 200), -3);
            CHECK.due(kinds[i] + ": both 200", x.fact(kinds[i], a[i], 0, 200, 200), -3);
            CHECK.due(kinds[i] + ": to MAX", x.fact(kinds[i], a[i], 0, 0, MAX), -3);
            CHECK.due(kinds[i] + ": to -1", x.fact(kinds[i], a[i], 0, 0, -1), -3);
        }
        CHECK.due("count(8)", x.count(8), 0);
        for (int i = 0; i < 3; i++) {
            CHECK.due(kinds[i] + ": all years", x.fact(kinds[i], a[i], 0, 0, 199), 3 * i);
            CHECK.due(kinds[i] + ": year 0", x.fact(kinds[i], a[i], 0, 0, 0), 3 * i + 1);
            CHECK.due(kinds[i] + ": year 199", x.fact(kinds[i], a[i], 0, 199, 199), 3 * i + 2);
        }
        CHECK.promise(22, "-1 less 2: of 3 from alone 0 to 199");
        int[] noYears = {-1, 200, MIN, MAX};
        for (int from : noYears) {
            CHECK.due("stood in " + from, x.fact(3, MARK, AEDILE, from, 199), -3);
        }
        CHECK.due("stood in 0", x.fact(3, MARK, AEDILE, 0, 0), 9);
        CHECK.due("stood in 199", x.fact(3, MARK, AEDILE, 199, 0), 10);
        CHECK.promise(22, "the first of: 1 ahead of 2");
        CHECK.due("no such kind", x.fact(5, 0, 0, -1, -1), -2);
        CHECK.due("no such wall", x.fact(0, 2, 0, -1, -1), -2);
        CHECK.due("no such scrawl", x.fact(1, 1, 0, 9, 8), -2);
        CHECK.due("no name", x.fact(3, AEDILE, AEDILE, 200, 0), -2);
        CHECK.due("no thing", x.fact(4, MARK, 0, 0, 200), -2);
    }

    private static void anyNumbers() {
        ScrawlHouse x = house();
        scrawl(x, "m");
        scrawl(x, "m");
        int many = 0;
        CHECK.promise(22, "2: from, to any");
        for (int odd : ODD) {
            CHECK.due("from and to " + odd, x.fact(2, 0, 1, odd, -7), many++);
            CHECK.due("to " + odd, x.fact(2, 0, 1, 300, odd), many++);
        }
        CHECK.promise(22, "3: to any");
        for (int odd : ODD) {
            CHECK.due("to " + odd, x.fact(3, MARK, AEDILE, 7, odd), many++);
        }
        int s = scrawl(x, "ma");
        spans(x, "to does not count", s, 7, 7);
        CHECK.promise(22, "1 and 4: b any, and it does not count");
        ScrawlHouse y = house();
        int free = scrawl(y, "la");
        int held = scrawl(y, "ma");
        y.fact(1, free, AEDILE, 10, 20);
        y.fact(4, LAMP, AEDILE, 30, 40);
        spans(y, "the one that the limit is of", free, 10, 20);
        spans(y, "mark the aedile", held, 0, 199);
        CHECK.promise(22, "2: from, to any, and they do not count");
        y.fact(2, 0, 1, 70, 70);
        spans(y, "the one answered", free, 10, 20);
        spans(y, "the one that answers", held, 10, 199);
    }

    private static void factsFull() {
        CHECK.promise(22, "its number");
        ScrawlHouse x = house();
        int s = scrawl(x, "m");
        for (int i = 0; i < 80; i++) {
            CHECK.due("fact " + i, x.fact(1, s, 0, i, 199), i);
        }
        CHECK.promise(22, "-1 less 3: there are 80");
        CHECK.due("one more", x.fact(1, s, 0, 80, 199), -4);
        CHECK.due("of 0", x.fact(0, 0, 0, 0, 0), -4);
        CHECK.due("of 2", x.fact(2, s, scrawl(x, "m"), 0, 0), -4);
        CHECK.due("count(8)", x.count(8), 80);
        spans(x, "the 80th counts, the 81st does not", s, 79, 199);
        CHECK.promise(22, "the first of: 1 and 2 ahead of 3");
        CHECK.due("years", x.fact(1, s, 0, 5, 4), -3);
        CHECK.due("no such scrawl", x.fact(1, 7, 0, 5, 4), -2);
        CHECK.due("no such kind", x.fact(9, s, 0, 0, 0), -2);
    }

    private static void spanOfNoneSuch() {
        ScrawlHouse x = house();
        x.next(4);
        int s = scrawl(x, "m");
        CHECK.promise(23, "NONE: no such one");
        int[] noScrawls = {-1, 1, 20, 52, MIN, MAX};
        for (int one : noScrawls) {
            CHECK.due("least of " + one, x.span(one, 4, false), -1);
            CHECK.due("greatest of " + one, x.span(one, 4, true), -1);
        }
        CHECK.promise(23, "NONE: not KNOWN then");
        CHECK.due("day 3", x.span(s, 3, false), -1);
        CHECK.due("day MIN", x.span(s, MIN, true), -1);
        CHECK.due("day 4", x.span(s, 4, true), 199);
        CHECK.due("day MAX", x.span(s, MAX, true), 199);
        CHECK.promise(23, "YEARS 0 .. 199, where nothing is told");
        spans(x, "scrawl", s, 0, 199);
        CHECK.promise(24, "NONE: no such LAYER");
        for (int odd : ODD) {
            CHECK.due("wall " + odd, x.laid(odd, 0, 4, false), -1);
            CHECK.due("layer " + odd, x.laid(0, odd, 4, true), -1);
        }
        CHECK.due("layer 4 of 4", x.laid(0, 4, 4, false), -1);
        CHECK.due("layer 1 of 1", x.laid(1, 1, 4, false), -1);
        CHECK.promise(24, "YEARS 0 .. 199, where nothing is told");
        for (int layer = 0; layer < 4; layer++) {
            lays(x, "layer " + layer, layer, 0, 199);
        }
    }

    private static void layersInOrder() {
        CHECK.promise(24, "a LAYER is not ahead of the one on which it is");
        ScrawlHouse x = house();
        x.fact(0, 0, 1, 50, 70);
        lays(x, "under it", 0, 0, 70);
        lays(x, "itself", 1, 50, 70);
        lays(x, "upon it", 2, 50, 199);
        lays(x, "upon that", 3, 50, 199);
        CHECK.due("another wall", x.laid(1, 0, 0, true), 199);
        CHECK.promise(24, "it may be of the same year");
        x.fact(0, 0, 0, 70, 199);
        x.fact(0, 0, 3, 0, 70);
        for (int layer = 0; layer < 4; layer++) {
            lays(x, "layer " + layer, layer, 70, 70);
        }
        CHECK.due("spoilt", x.spoilt(0), -1);
        x.fact(0, 0, 2, 0, 69);
        CHECK.due("one year ahead", x.spoilt(0), 3);
        lays(x, "no span", 0, -1, -1);
    }

    private static void scrawlsBetweenLayers() {
        ScrawlHouse x = house();
        int s = scrawl(x, 0, 1, "m");
        int top = scrawl(x, 0, 3, "m");
        x.fact(0, 0, 1, 40, 45);
        x.fact(0, 0, 2, 80, 85);
        CHECK.promise(23, "a SCRAWL is not ahead of its LAYER, nor behind the next LAYER of its WALL");
        spans(x, "between", s, 40, 85);
        CHECK.promise(23, "on the last LAYER no next one holds it");
        spans(x, "on the last", top, 80, 199);
        CHECK.promise(23, "it may be of the year of its LAYER and of the next");
        x.fact(1, s, 0, 85, 199);
        spans(x, "of the next", s, 85, 85);
        lays(x, "the next", 2, 85, 85);
        CHECK.due("spoilt", x.spoilt(0), -1);
        x.fact(1, s, 0, 86, 199);
        CHECK.due("a year behind", x.spoilt(0), 3);
        ScrawlHouse y = house();
        int one = scrawl(y, 0, 1, "m");
        y.fact(0, 0, 1, 40, 45);
        y.fact(1, one, 0, 0, 40);
        spans(y, "of its layer's year", one, 40, 40);
        CHECK.promise(24, "a LAYER is held by the SCRAWLS upon it and under it");
        lays(y, "its layer", 1, 40, 40);
        y.fact(1, scrawl(y, 0, 2, "m"), 0, 60, 60);
        lays(y, "upon it", 2, 40, 60);
        lays(y, "the last", 3, 60, 199);
    }

    private static void limits() {
        CHECK.promise(23, "LIMIT: from a year to another one, both among them");
        ScrawlHouse x = house();
        int s = scrawl(x, "m");
        x.fact(1, s, 0, 10, 150);
        spans(x, "one limit", s, 10, 150);
        x.fact(1, s, 0, 100, 199);
        spans(x, "two limits", s, 100, 150);
        x.fact(1, s, 0, 0, 100);
        spans(x, "three limits", s, 100, 100);
        CHECK.due("spoilt", x.spoilt(0), -1);
        x.fact(1, s, 0, 101, 101);
        CHECK.due("four limits", x.spoilt(0), 3);
        CHECK.promise(24, "LIMIT of a LAYER likewise");
        ScrawlHouse y = house();
        y.fact(0, 0, 0, 10, 150);
        y.fact(0, 0, 0, 150, 199);
        lays(y, "layer", 0, 150, 150);
    }

    private static void answers() {
        CHECK.promise(23, "ANSWER: SCRAWL b is not ahead of a");
        ScrawlHouse x = house();
        int a = scrawl(x, "m");
        int b = scrawl(x, "m");
        x.fact(2, a, b, 0, 0);
        x.fact(1, a, 0, 60, 199);
        x.fact(1, b, 0, 0, 90);
        spans(x, "a", a, 60, 90);
        spans(x, "b", b, 60, 90);
        CHECK.promise(23, "they may be of the same year");
        x.fact(1, a, 0, 90, 199);
        spans(x, "a in 90", a, 90, 90);
        spans(x, "b in 90", b, 90, 90);
        CHECK.due("spoilt", x.spoilt(0), -1);
        x.fact(1, a, 0, 91, 199);
        CHECK.due("a year behind", x.spoilt(0), 4);
        CHECK.promise(23, "two that answer each other are of one year");
        ScrawlHouse y = house();
        int p = scrawl(y, "m");
        int q = scrawl(y, "m");
        y.fact(2, p, q, 0, 0);
        y.fact(2, q, p, 0, 0);
        spans(y, "free", p, 0, 199);
        y.fact(1, p, 0, 30, 50);
        y.fact(1, q, 0, 50, 70);
        spans(y, "p", p, 50, 50);
        spans(y, "q", q, 50, 50);
    }

    private static void heldAlongLayers() {
        CHECK.promise(23, "a SCRAWL on LAYER 0 is not behind LAYER 1");
        ScrawlHouse x = house();
        int low = scrawl(x, 0, 0, "m");
        x.fact(0, 0, 1, 0, 30);
        spans(x, "low", low, 0, 30);
        CHECK.promise(24, "a LAYER is held by all that is under it");
        ScrawlHouse y = house();
        y.fact(1, scrawl(y, 0, 0, "m"), 0, 77, 199);
        for (int layer = 1; layer < 4; layer++) {
            lays(y, "layer " + layer, layer, 77, 199);
        }
        CHECK.promise(24, "the last LAYER of a WALL does not hold another WALL");
        y.fact(1, scrawl(y, 0, 3, "m"), 0, 100, 120);
        CHECK.due("wall 1, least", y.laid(1, 0, 0, false), 0);
        CHECK.due("wall 1, greatest", y.laid(1, 0, 0, true), 199);
        CHECK.promise(23, "a SCRAWL is held by all LAYERS upon it");
        ScrawlHouse z = house();
        int under = scrawl(z, 0, 0, "m");
        z.fact(0, 0, 2, 0, 50);
        spans(z, "under", under, 0, 50);
        CHECK.promise(23, "a SCRAWL is held by a SCRAWL on the next LAYER, told ahead of it or behind");
        ScrawlHouse w = house();
        int upon = scrawl(w, 0, 1, "m");
        int below = scrawl(w, 0, 0, "m");
        w.fact(0, 0, 0, 0, 10);
        w.fact(1, upon, 0, 0, 60);
        spans(w, "below", below, 0, 60);
        CHECK.promise(23, "what the next LAYER holds goes on along an ANSWER");
        ScrawlHouse v = house();
        int s = scrawl(v, 0, 0, "m");
        int a = scrawl(v, "m");
        v.fact(0, 0, 0, 0, 10);
        v.fact(0, 0, 1, 0, 80);
        v.fact(2, a, s, 0, 0);
        spans(v, "a, not behind s", a, 0, 80);
    }

    private static void heldAlongAnswers() {
        CHECK.promise(23, "ANSWERS in a row, told from the last to the first");
        ScrawlHouse x = house();
        int p = scrawl(x, "m");
        int q = scrawl(x, "m");
        int r = scrawl(x, "m");
        x.fact(0, 1, 0, 0, 5);
        x.fact(1, p, 0, 50, 199);
        x.fact(1, r, 0, 0, 60);
        x.fact(2, q, r, 0, 0);
        x.fact(2, p, q, 0, 0);
        spans(x, "p", p, 50, 60);
        spans(x, "q", q, 50, 60);
        spans(x, "r", r, 50, 60);
        CHECK.promise(23, "ANSWERS in a row, told from the first to the last");
        ScrawlHouse y = house();
        for (int i = 0; i < 20; i++) {
            scrawl(y, "m");
        }
        y.fact(1, 0, 0, 50, 199);
        y.fact(1, 19, 0, 0, 60);
        for (int i = 0; i < 19; i++) {
            y.fact(2, i, i + 1, 0, 0);
        }
        for (int i = 0; i < 20; i++) {
            spans(y, "scrawl " + i, i, 50, 60);
        }
    }

    private static void stood() {
        CHECK.promise(23, "a name and an office of which any STOOD is KNOWN: one of those years");
        ScrawlHouse x = house();
        int s = scrawl(x, "ma");
        spans(x, "none told", s, 0, 199);
        x.fact(3, MARK, AEDILE, 0, 0);
        spans(x, "year 0", s, 0, 0);
        x.fact(3, MARK, AEDILE, 199, 0);
        spans(x, "0 and 199", s, 0, 199);
        x.fact(1, s, 0, 1, 199);
        spans(x, "none between", s, 199, 199);
        x.fact(1, s, 0, 0, 198);
        CHECK.due("neither", x.spoilt(0), 3);
        x.fact(3, MARK, AEDILE, 64, 0);
        CHECK.promise(25, "all can be again, since a further STOOD gave a year");
        CHECK.due("spoilt", x.spoilt(0), -1);
        spans(x, "that year", s, 64, 64);
        CHECK.promise(23, "the name and the office both");
        ScrawlHouse y = house();
        y.fact(3, MARK, AEDILE, 20, 0);
        y.fact(3, LUCIUS, DUUMVIR, 30, 0);
        spans(y, "mark the aedile", scrawl(y, "ma"), 20, 20);
        spans(y, "mark the duumvir", scrawl(y, "md"), 0, 199);
        spans(y, "lucius the duumvir", scrawl(y, "ld"), 30, 30);
        spans(y, "lucius the aedile", scrawl(y, "la"), 0, 199);
        spans(y, "mark", scrawl(y, "m"), 0, 199);
        spans(y, "an aedile ahead of mark", scrawl(y, "am"), 20, 20);
        spans(y, "no reading", scrawl(y, "zz"), 0, 199);
    }

    private static void stoodFirstOfEach() {
        CHECK.promise(23, "the first of each");
        ScrawlHouse x = house();
        x.fact(3, MARK, AEDILE, 20, 0);
        x.fact(3, LUCIUS, DUUMVIR, 30, 0);
        spans(x, "mark lucius aedile", scrawl(x, "mla"), 20, 20);
        spans(x, "lucius mark aedile", scrawl(x, "lma"), 0, 199);
        spans(x, "mark aedile duumvir", scrawl(x, "mad"), 20, 20);
        spans(x, "mark duumvir aedile", scrawl(x, "mda"), 0, 199);
        spans(x, "lucius mark duumvir aedile", scrawl(x, "lmda"), 30, 30);
    }

    private static void things() {
        CHECK.promise(23, "a thing of which FACTS 4 are KNOWN: of a year of one of these");
        ScrawlHouse x = house();
        int lamp = scrawl(x, "p");
        int both = scrawl(x, "sp");
        int ship = scrawl(x, "mas");
        spans(x, "none told", lamp, 0, 199);
        x.fact(4, LAMP, 0, 30, 40);
        spans(x, "from 30 to 40", lamp, 30, 40);
        spans(x, "of another thing nothing is told", ship, 0, 199);
        x.fact(4, LAMP, 0, 120, 130);
        spans(x, "one of two", lamp, 30, 130);
        x.fact(1, lamp, 0, 41, 199);
        spans(x, "none between", lamp, 120, 130);
        CHECK.promise(23, "for each such thing");
        spans(x, "lamp alone is told", both, 30, 130);
        x.fact(4, SHIP, 0, 40, 120);
        spans(x, "lamp and ship", both, 40, 120);
        spans(x, "ship", ship, 40, 120);
        x.fact(1, both, 0, 41, 199);
        spans(x, "none between for both", both, 120, 120);
        CHECK.promise(23, "STOOD and things both hold");
        x.fact(3, MARK, AEDILE, 39, 0);
        CHECK.due("no year for both", x.spoilt(0), 5);
        x.fact(3, MARK, AEDILE, 77, 0);
        spans(x, "a year for both", ship, 77, 77);
    }

    /** SIX things, and WORDS behind them, that are one another's neighbours wherever they are kept. */
    private static void sixThings() {
        CHECK.promise(23, "six things, each by itself, and none of the next SCRAWL");
        ScrawlHouse x = new ScrawlHouse();
        for (int i = 0; i < 6; i++) {
            Tell.word(x, "" + (char) ('a' + i), 3);
        }
        Tell.word(x, "m", 0);
        Tell.word(x, "o", 2);
        Tell.patterns(x, "thing thing thing thing thing thing; name office;");
        x.wall(0, 1);
        int six = scrawl(x, 0, 0, "abcdef");
        int next = scrawl(x, 0, 0, "mo");
        x.fact(4, 5, 0, 10, 20);
        spans(x, "six by the sixth thing", six, 10, 20);
        spans(x, "the next is free", next, 0, 199);
        x.fact(3, 6, 7, 100, 0);
        spans(x, "the next by STOOD", next, 100, 100);
        for (int i = 0; i < 5; i++) {
            x.fact(4, i, 0, 0, 199);
        }
        spans(x, "all years of the others change nothing", six, 10, 20);
        x.fact(4, 5, 0, 0, 199);
        spans(x, "all years of all things", six, 0, 199);
        spans(x, "the next as it was", next, 100, 100);
        CHECK.promise(23, "years near 199 of one thing are not years near 0 of another");
        ScrawlHouse y = house();
        int both = scrawl(y, "ps");
        y.fact(4, LAMP, 0, 0, 199);
        y.fact(4, SHIP, 0, 50, 60);
        spans(y, "both", both, 50, 60);
        CHECK.promise(23, "twenty SCRAWLS, all of one thing or one STOOD");
        ScrawlHouse z = house();
        for (int i = 0; i < 20; i++) {
            scrawl(z, i % 2 == 0 ? "p" : "ma");
        }
        z.fact(4, LAMP, 0, 30, 40);
        z.fact(3, MARK, AEDILE, 70, 0);
        for (int i = 0; i < 20; i++) {
            spans(z, "scrawl " + i, i, i % 2 == 0 ? 30 : 70, i % 2 == 0 ? 40 : 70);
        }
    }

    private static void readOtherwise() {
        CHECK.promise(23, "by BEST READINGS AS OF t: a thing that is no more read holds no more");
        ScrawlHouse x = house();
        Tell.word(x, "qq", 3);
        int s = scrawl(x, "ps");
        x.fact(4, SHIP, 0, 10, 20);
        x.next(1);
        Tell.drawing(x, s, 0, "qq");
        CHECK.due("day 0", x.span(s, 0, true), 20);
        CHECK.due("day 1", x.span(s, 1, true), 199);
        CHECK.due("day 0 again", x.span(s, 0, true), 20);
        CHECK.promise(23, "a day ahead, asked behind a later one");
        ScrawlHouse y = house();
        int one = scrawl(y, "map");
        y.fact(3, MARK, AEDILE, 20, 0);
        y.fact(4, LAMP, 0, 0, 50);
        y.next(1);
        y.fact(3, MARK, AEDILE, 40, 0);
        y.fact(3, MARK, AEDILE, 0, 0);
        CHECK.due("day 1, greatest", y.span(one, 1, true), 40);
        CHECK.due("day 1, least", y.span(one, 1, false), 0);
        CHECK.due("day 0, greatest", y.span(one, 0, true), 20);
        CHECK.due("day 0, least", y.span(one, 0, false), 20);
        CHECK.promise(25, "a SCRAWL not KNOWN yet can't spoil");
        ScrawlHouse z = house();
        z.fact(4, LAMP, 0, 10, 20);
        z.fact(4, SHIP, 0, 30, 40);
        z.next(1);
        scrawl(z, "ps");
        CHECK.due("day 1", z.spoilt(1), 1);
        CHECK.due("day 0", z.spoilt(0), -1);
    }

    private static void cantBe() {
        ScrawlHouse x = house();
        int p = scrawl(x, "m");
        int q = scrawl(x, 0, 0, "m");
        x.fact(1, p, 0, 5, 6);
        x.fact(1, p, 0, 7, 8);
        CHECK.promise(23, "NONE: it can't be (of any SCRAWL)");
        spans(x, "the one that can't", p, -1, -1);
        spans(x, "one that has nothing to do with it", q, -1, -1);
        CHECK.promise(24, "NONE: it can't be (of any LAYER)");
        for (int layer = 0; layer < 4; layer++) {
            lays(x, "layer " + layer, layer, -1, -1);
        }
        CHECK.due("its own layer", x.laid(1, 0, 0, false), -1);
    }

    private static void spoiltFirst() {
        CHECK.promise(25, "NONE: all can be");
        ScrawlHouse x = house();
        CHECK.due("no scrawls, no facts", x.spoilt(0), -1);
        int s = scrawl(x, "m");
        CHECK.due("no facts", x.spoilt(0), -1);
        x.fact(1, s, 0, 10, 20);
        CHECK.due("one fact", x.spoilt(0), -1);
        CHECK.promise(25, "the first FACT, in order, with which (and all ahead of it) it can't be");
        x.fact(0, 0, 0, 0, 0);
        x.fact(1, s, 0, 20, 30);
        x.fact(1, s, 0, 21, 30);
        CHECK.due("fact 3", x.spoilt(0), 3);
        x.fact(1, s, 0, 22, 30);
        x.fact(0, 0, 0, 1, 1);
        CHECK.due("further ones change nothing", x.spoilt(0), 3);
        CHECK.promise(25, "the least: FACT 1");
        ScrawlHouse y = house();
        y.fact(0, 1, 0, 9, 9);
        y.fact(0, 1, 0, 8, 8);
        CHECK.due("fact 1", y.spoilt(0), 1);
    }

    private static void spoiltLast() {
        CHECK.promise(25, "the last: FACT 79");
        ScrawlHouse x = house();
        int s = scrawl(x, "m");
        for (int i = 0; i < 79; i++) {
            x.fact(1, s, 0, i, 199);
        }
        CHECK.due("79 facts", x.spoilt(0), -1);
        CHECK.due("the 80th", x.fact(1, s, 0, 0, 77), 79);
        CHECK.due("fact 79", x.spoilt(0), 79);
    }

    private static void spoiltAsOf() {
        CHECK.promise(25, "AS OF t: of the FACTS that are KNOWN then");
        ScrawlHouse x = house();
        int s = scrawl(x, "m");
        x.fact(1, s, 0, 10, 20);
        x.next(1);
        x.fact(1, s, 0, 30, 40);
        x.next(1);
        x.fact(1, s, 0, 50, 60);
        CHECK.due("day 0", x.spoilt(0), -1);
        CHECK.due("day 1", x.spoilt(1), 1);
        CHECK.due("day 2", x.spoilt(2), 1);
        CHECK.due("day -1", x.spoilt(-1), -1);
        CHECK.due("day MIN", x.spoilt(MIN), -1);
        CHECK.due("day MAX", x.spoilt(MAX), 1);
        CHECK.promise(25, "by BEST READINGS AS OF t");
        ScrawlHouse y = house();
        int one = scrawl(y, "ma");
        y.fact(1, one, 0, 10, 20);
        y.fact(3, MARK, AEDILE, 30, 0);
        y.next(1);
        Tell.drawing(y, one, 0, "la");
        CHECK.due("mark", y.spoilt(0), 1);
        CHECK.due("lucius", y.spoilt(1), -1);
        CHECK.due("mark's span", y.span(one, 0, false), -1);
        CHECK.due("lucius' span", y.span(one, 1, false), 10);
    }

    private static void factsAsOf() {
        CHECK.promise(22, "KNOWN when told: not on the day ahead, but on its day");
        ScrawlHouse x = house();
        int s = scrawl(x, 0, 0, "map");
        x.fact(1, s, 0, 0, 150);
        x.next(2);
        x.fact(0, 0, 0, 10, 199);
        x.next(2);
        x.fact(3, MARK, AEDILE, 20, 0);
        x.fact(3, MARK, AEDILE, 90, 0);
        x.next(2);
        x.fact(4, LAMP, 0, 15, 60);
        int[] greatest = {150, 150, 150, 150, 90, 90, 20, 20};
        int[] least = {0, 0, 10, 10, 20, 20, 20, 20};
        for (int t = 0; t < 8; t++) {
            CHECK.due("least on day " + t, x.span(s, t, false), least[t]);
            CHECK.due("greatest on day " + t, x.span(s, t, true), greatest[t]);
        }
        CHECK.promise(24, "AS OF t");
        CHECK.due("day 1", x.laid(0, 0, 1, false), 0);
        CHECK.due("day 2", x.laid(0, 0, 2, false), 10);
        CHECK.due("day 6", x.laid(0, 0, 6, true), 20);
        CHECK.due("day -1: no scrawl, no fact", x.laid(0, 0, -1, true), 199);
        CHECK.promise(23, "a SCRAWL not KNOWN yet holds nothing");
        ScrawlHouse y = house();
        y.fact(0, 0, 1, 0, 100);
        y.next(1);
        int late = scrawl(y, 0, 1, "ma");
        y.fact(3, MARK, AEDILE, 100, 0);
        CHECK.due("layer 2 on day 0", y.laid(0, 2, 0, false), 0);
        CHECK.due("layer 2 on day 1", y.laid(0, 2, 1, false), 100);
        CHECK.due("late on day 0", y.span(late, 0, false), -1);
        CHECK.due("late on day 1", y.span(late, 1, false), 100);
    }
}

/** Promises 22 to 25: FACTS, SPANS of SCRAWLS and LAYERS, SPOILT. */
public final class YearsTest {
    private static final Check CHECK = new Check();
    private static final int MARK = 0;
    private static final int LUCIUS = 1;
    private static final int AEDILE = 2;
    private static final int DUUMVIR = 3;
    private static final int LAMP = 4;
    private static final int SHIP = 5;
    private static final int BAKER = 6;

    public static void main(String[] args) {
        refused();
        layers();
        answers();
        stood();
        things();
        asOf();
        spoiltSetFree();
        fullAndSwinging();
        chains();
        firstAndLastYears();
        manyThings();
        CHECK.finish();
    }

    private static ScrawlHouse house(int layers) {
        ScrawlHouse x = new ScrawlHouse();
        Tell.word(x, "m", 0);
        Tell.word(x, "l", 0);
        Tell.word(x, "a", 2);
        Tell.word(x, "d", 2);
        Tell.word(x, "p", 3);
        Tell.word(x, "s", 3);
        Tell.word(x, "b", 1);
        Tell.patterns(x, "name name? trade? office? office? thing?; thing thing thing?; other;");
        x.wall(0, layers);
        return x;
    }

    private static int scrawl(ScrawlHouse x, int layer, String letters) {
        int s = x.scrawl(0, layer, letters.length());
        Tell.drawing(x, s, 0, letters);
        return s;
    }

    private static void spans(ScrawlHouse x, String call, int s, int least, int greatest) {
        CHECK.due(call + ", least", x.span(s, 999, false), least);
        CHECK.due(call + ", greatest", x.span(s, 999, true), greatest);
    }

    private static void lays(ScrawlHouse x, String call, int layer, int least, int greatest) {
        CHECK.due(call + ", least", x.laid(0, layer, 999, false), least);
        CHECK.due(call + ", greatest", x.laid(0, layer, 999, true), greatest);
    }

    private static void refused() {
        ScrawlHouse x = house(2);
        scrawl(x, 0, "m");
        scrawl(x, 0, "m");
        CHECK.due("kind -1", x.fact(-1, 0, 0, 0, 0), -2);
        CHECK.due("kind 5", x.fact(5, 0, 0, 0, 0), -2);
        CHECK.due("wall 1", x.fact(0, 1, 0, 0, 0), -2);
        CHECK.due("wall -1", x.fact(0, -1, 0, 0, 0), -2);
        CHECK.due("layer 2", x.fact(0, 0, 2, 0, 0), -2);
        CHECK.due("layer -1", x.fact(0, 0, -1, 0, 0), -2);
        CHECK.due("scrawl 2", x.fact(1, 2, 0, 0, 0), -2);
        CHECK.due("scrawl -1", x.fact(1, -1, 0, 0, 0), -2);
        CHECK.due("answer to itself", x.fact(2, 1, 1, 0, 0), -2);
        CHECK.due("answer by 2", x.fact(2, 1, 2, 0, 0), -2);
        CHECK.due("answer to -1", x.fact(2, -1, 1, 0, 0), -2);
        CHECK.due("stood: no name", x.fact(3, BAKER, AEDILE, 0, 0), -2);
        CHECK.due("stood: no office", x.fact(3, MARK, LUCIUS, 0, 0), -2);
        CHECK.due("stood: word 7", x.fact(3, 7, AEDILE, 0, 0), -2);
        CHECK.due("stood: word -1", x.fact(3, MARK, -1, 0, 0), -2);
        CHECK.due("thing: a name", x.fact(4, MARK, 0, 0, 0), -2);
        CHECK.due("a before years", x.fact(4, MARK, 0, -1, 0), -2);
        CHECK.due("from -1", x.fact(0, 0, 0, -1, 0), -3);
        CHECK.due("to 200", x.fact(1, 0, 0, 0, 200), -3);
        CHECK.due("from behind to", x.fact(4, LAMP, 0, 6, 5), -3);
        CHECK.due("stood in -1", x.fact(3, MARK, AEDILE, -1, 5), -3);
        CHECK.due("stood in 200", x.fact(3, MARK, AEDILE, 200, 5), -3);
        CHECK.due("count(8)", x.count(8), 0);
        CHECK.due("layer fact", x.fact(0, 0, 1, 0, 199), 0);
        CHECK.due("scrawl fact, b any", x.fact(1, 1, -77, 0, 199), 1);
        CHECK.due("answer, years any", x.fact(2, 0, 1, -5, 500), 2);
        CHECK.due("stood, to any", x.fact(3, MARK, AEDILE, 199, -9), 3);
        CHECK.due("thing, b any", x.fact(4, SHIP, 999, 3, 3), 4);
        for (int i = 5; i < 80; i++) {
            CHECK.due("fact " + i, x.fact(1, 0, 0, 0, 199), i);
        }
        CHECK.due("fact 80", x.fact(1, 0, 0, 0, 199), -4);
        CHECK.due("fact 80, years first", x.fact(1, 0, 0, 0, 200), -3);
        CHECK.due("fact 80, a first", x.fact(1, 2, 0, 0, 200), -2);
        CHECK.due("count(8)", x.count(8), 80);
        CHECK.due("span of scrawl 2", x.span(2, 0, false), -1);
        CHECK.due("span of scrawl -1", x.span(-1, 0, true), -1);
        CHECK.due("laid of wall 1", x.laid(1, 0, 0, true), -1);
        CHECK.due("laid of layer 2", x.laid(0, 2, 0, true), -1);
        CHECK.due("laid of layer -1", x.laid(0, -1, 0, true), -1);
    }

    private static void layers() {
        ScrawlHouse x = house(3);
        int under = scrawl(x, 0, "m");
        int upon = scrawl(x, 2, "m");
        spans(x, "at first", under, 0, 199);
        lays(x, "layer 0 at first", 0, 0, 199);
        x.fact(0, 0, 1, 50, 80);
        spans(x, "not behind the next layer", under, 0, 80);
        spans(x, "not ahead of its layer", upon, 50, 199);
        lays(x, "layer 0", 0, 0, 80);
        lays(x, "layer 1", 1, 50, 80);
        lays(x, "layer 2", 2, 50, 199);
        x.fact(1, under, 0, 60, 199);
        lays(x, "layer 1 with a scrawl under it", 1, 60, 80);
        lays(x, "layer 0 is free", 0, 0, 80);
        x.fact(1, upon, 0, 0, 70);
        lays(x, "layer 2", 2, 60, 70);
        lays(x, "layer 1", 1, 60, 70);
        spans(x, "under", under, 60, 70);
        spans(x, "upon", upon, 60, 70);
        CHECK.due("not spoilt", x.spoilt(999), -1);
        x.fact(0, 0, 0, 71, 199);
        CHECK.due("spoilt", x.spoilt(999), 3);
        spans(x, "nothing has a span", under, -1, -1);
        lays(x, "no layer has a span", 1, -1, -1);
        // walls count whatever the day
        CHECK.due("layer as of -1", x.laid(0, 1, -1, true), 199);
        CHECK.due("span as of -1", x.span(under, -1, true), -1);
        CHECK.due("spoilt as of -1", x.spoilt(-1), -1);
    }

    private static void answers() {
        ScrawlHouse x = house(1);
        int p = scrawl(x, 0, "m");
        int q = scrawl(x, 0, "m");
        int r = scrawl(x, 0, "m");
        x.fact(1, p, 0, 20, 199);
        x.fact(1, r, 0, 0, 90);
        x.fact(2, p, q, 0, 0);
        x.fact(2, q, r, 0, 0);
        spans(x, "p", p, 20, 90);
        spans(x, "q", q, 20, 90);
        spans(x, "r", r, 20, 90);
        x.fact(2, r, p, 0, 0);
        x.fact(1, q, 0, 33, 44);
        spans(x, "p in a ring", p, 33, 44);
        CHECK.due("not spoilt", x.spoilt(0), -1);
        x.fact(1, r, 0, 45, 45);
        x.fact(1, p, 0, 1, 1);
        CHECK.due("the first that spoils", x.spoilt(0), 6);
    }

    private static void stood() {
        ScrawlHouse x = house(1);
        int s = scrawl(x, 0, "mlad");
        int t = scrawl(x, 0, "m");
        x.fact(3, LUCIUS, AEDILE, 9, 0);
        x.fact(3, MARK, DUUMVIR, 9, 0);
        spans(x, "first name and office alone", s, 0, 199);
        x.fact(3, MARK, AEDILE, 63, 0);
        spans(x, "one year", s, 63, 63);
        x.fact(3, MARK, AEDILE, 64, 0);
        x.fact(3, MARK, AEDILE, 127, 0);
        x.fact(3, MARK, AEDILE, 128, 0);
        spans(x, "one of the years", s, 63, 128);
        spans(x, "without an office", t, 0, 199);
        x.fact(1, s, 0, 65, 199);
        spans(x, "years between fall out", s, 127, 128);
        x.fact(1, t, 0, 128, 150);
        x.fact(2, t, s, 0, 0);
        spans(x, "by an answer", s, 128, 128);
        spans(x, "the one answered", t, 128, 128);
    }

    private static void things() {
        ScrawlHouse x = house(1);
        int s = scrawl(x, 0, "psp");
        int t = scrawl(x, 0, "ms");
        x.fact(4, LAMP, 0, 10, 20);
        x.fact(4, LAMP, 0, 50, 60);
        spans(x, "lamp", s, 10, 60);
        spans(x, "no lamp", t, 0, 199);
        x.fact(4, SHIP, 0, 15, 55);
        spans(x, "lamp and ship", s, 15, 55);
        spans(x, "ship", t, 15, 55);
        x.fact(1, s, 0, 21, 199);
        spans(x, "later", s, 50, 55);
        x.fact(4, SHIP, 0, 190, 199);
        spans(x, "ship again", t, 15, 199);
        spans(x, "lamp holds", s, 50, 55);
        x.fact(1, s, 0, 61, 199);
        CHECK.due("spoilt", x.spoilt(0), 5);
    }

    private static void asOf() {
        ScrawlHouse x = house(1);
        int s = scrawl(x, 0, "ma");
        x.fact(3, LUCIUS, AEDILE, 30, 0);
        x.next(1);
        x.fact(3, MARK, AEDILE, 20, 0);
        x.next(1);
        Tell.drawing(x, s, 0, "la");
        x.next(1);
        x.fact(1, s, 0, 0, 10);
        CHECK.due("day 0", x.span(s, 0, true), 199);
        CHECK.due("day 1", x.span(s, 1, true), 20);
        CHECK.due("day 2, another reading", x.span(s, 2, true), 30);
        CHECK.due("day 3, it can't be", x.span(s, 3, true), -1);
        CHECK.due("day 2, not spoilt", x.spoilt(2), -1);
        CHECK.due("day 3, spoilt", x.spoilt(3), 2);
        CHECK.due("day 1 again", x.span(s, 1, false), 20);
        int late = scrawl(x, 0, "m");
        CHECK.due("not known on 2", x.span(late, 2, false), -1);
        CHECK.due("layer on day 1", x.laid(0, 0, 1, true), 20);
    }

    private static void spoiltSetFree() {
        ScrawlHouse x = house(1);
        int s = scrawl(x, 0, "ma");
        x.fact(1, s, 0, 40, 50);
        x.fact(3, MARK, AEDILE, 20, 0);
        CHECK.due("it can't be", x.spoilt(0), 1);
        x.fact(3, MARK, AEDILE, 45, 0);
        CHECK.due("all can be", x.spoilt(0), -1);
        spans(x, "set free", s, 45, 45);
        x.fact(1, s, 0, 0, 44);
        CHECK.due("the first with which it can't be", x.spoilt(0), 1);
    }

    private static void fullAndSwinging() {
        // one may have even years alone, one odd ones, and each is not ahead of the other
        ScrawlHouse x = house(1);
        int p = scrawl(x, 0, "mp");
        int q = scrawl(x, 0, "ms");
        x.fact(2, p, q, 0, 0);
        x.fact(2, q, p, 0, 0);
        for (int i = 0; i < 38; i++) {
            x.fact(4, LAMP, 0, 2 * i, 2 * i);
            x.fact(4, SHIP, 0, 2 * i + 1, 2 * i + 1);
        }
        CHECK.due("never the same", x.spoilt(0), 3);
        x.fact(4, SHIP, 0, 60, 60);
        CHECK.due("the same in one", x.spoilt(0), -1);
        spans(x, "p", p, 60, 60);
        spans(x, "q", q, 60, 60);
        CHECK.due("count(8)", x.count(8), 79);
    }

    /** Told against their order, so that what the last one holds must go on to the first. */
    private static void chains() {
        ScrawlHouse x = house(1);
        int p = scrawl(x, 0, "m");
        int q = scrawl(x, 0, "m");
        int r = scrawl(x, 0, "m");
        x.fact(0, 0, 0, 0, 10);
        x.fact(2, q, r, 0, 0);
        x.fact(2, p, q, 0, 0);
        x.fact(1, r, 0, 0, 60);
        x.fact(1, p, 0, 50, 199);
        spans(x, "p", p, 50, 60);
        spans(x, "q", q, 50, 60);
        spans(x, "r", r, 50, 60);
        lays(x, "layer", 0, 0, 10);
        ScrawlHouse y = house(4);
        int top = scrawl(y, 3, "m");
        int low = scrawl(y, 0, "m");
        y.fact(1, low, 0, 77, 199);
        y.fact(1, top, 0, 0, 88);
        lays(y, "y 0", 0, 0, 88);
        lays(y, "y 1", 1, 77, 88);
        lays(y, "y 2", 2, 77, 88);
        lays(y, "y 3", 3, 77, 88);
        spans(y, "y low", low, 77, 88);
        spans(y, "y top", top, 77, 88);
    }

    private static void firstAndLastYears() {
        ScrawlHouse x = house(1);
        int p = scrawl(x, 0, "ma");
        int q = scrawl(x, 0, "m");
        CHECK.due("stood in 0", x.fact(3, MARK, AEDILE, 0, 0), 0);
        spans(x, "p", p, 0, 0);
        x.fact(1, q, 0, 199, 199);
        spans(x, "q", q, 199, 199);
        CHECK.due("stood in 199", x.fact(3, MARK, AEDILE, 199, 0), 2);
        spans(x, "p", p, 0, 199);
        x.fact(1, p, 0, 1, 199);
        spans(x, "p at last", p, 199, 199);
        x.fact(0, 0, 0, 0, 0);
        lays(x, "layer", 0, 0, 0);
    }

    /** Each thing, and the office, holds a SCRAWL by itself. */
    private static void manyThings() {
        ScrawlHouse x = new ScrawlHouse();
        for (int i = 0; i < 6; i++) {
            Tell.word(x, "" + (char) ('a' + i), 3);
        }
        Tell.word(x, "m", 0);
        Tell.word(x, "o", 2);
        Tell.patterns(x, "thing thing thing thing thing thing; thing name office;");
        x.wall(0, 1);
        int six = scrawl(x, 0, "abcdef");
        int other = scrawl(x, 0, "bmo");
        for (int i = 0; i < 6; i++) {
            x.fact(4, i, 0, 0, 20 + i);
            x.fact(4, i, 0, 190 - i, 199);
        }
        spans(x, "six", six, 0, 199);
        x.fact(1, six, 0, 0, 189);
        spans(x, "six below 190", six, 0, 20);
        x.fact(1, six, 0, 20, 189);
        spans(x, "six in 20", six, 20, 20);
        x.fact(3, 6, 7, 195, 0);
        spans(x, "thing and office", other, 195, 195);
        x.fact(3, 6, 7, 100, 0);
        spans(x, "a year of one alone", other, 195, 195);
        CHECK.due("not spoilt", x.spoilt(0), -1);
        x.fact(1, other, 0, 0, 194);
        CHECK.due("spoilt", x.spoilt(0), 16);
    }
}

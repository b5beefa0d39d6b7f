/** Promises 26 to 28: PERSONS of a name and their WALKS. */
public final class PersonsTest {
    private static final Check CHECK = new Check();
    private static final int MARK = 0;
    private static final int LUCIUS = 1;
    private static final int BAKER = 2;
    private static final int SMITH = 3;

    public static void main(String[] args) {
        byTrades();
        fewest();
        firstTen();
        walks();
        walkOfEight();
        asOf();
        CHECK.finish();
    }

    private static ScrawlHouse house() {
        ScrawlHouse x = new ScrawlHouse();
        Tell.word(x, "m", 0);
        Tell.word(x, "l", 0);
        Tell.word(x, "b", 1);
        Tell.word(x, "s", 1);
        Tell.word(x, "c", 1);
        Tell.patterns(x, "name name? trade? trade?; trade;");
        return x;
    }

    private static int scrawl(ScrawlHouse x, int wall, String letters) {
        int s = x.scrawl(wall, 0, letters.length());
        Tell.drawing(x, s, 0, letters);
        return s;
    }

    private static void byTrades() {
        ScrawlHouse x = house();
        x.wall(0, 1);
        int mb = scrawl(x, 0, "mb");
        int ms = scrawl(x, 0, "ms");
        int m = scrawl(x, 0, "m");
        int lm = scrawl(x, 0, "lm");
        int b = scrawl(x, 0, "b");
        int none = scrawl(x, 0, "zz");
        int msb = scrawl(x, 0, "msb");
        CHECK.due("marks", x.persons(MARK, 0), 2);
        CHECK.due("luciuses", x.persons(LUCIUS, 0), 1);
        CHECK.due("no name", x.persons(BAKER, 0), -1);
        CHECK.due("no word", x.persons(5, 0), -1);
        CHECK.due("word -1", x.persons(-1, 0), -1);
        CHECK.due("day -1", x.persons(MARK, -1), 0);
        CHECK.due("mb", x.person(mb, 0), 0);
        CHECK.due("ms", x.person(ms, 0), 1);
        CHECK.due("m", x.person(m, 0), 0);
        CHECK.due("lm, of its first name", x.person(lm, 0), 0);
        CHECK.due("b has no name", x.person(b, 0), -1);
        CHECK.due("no reading", x.person(none, 0), -1);
        CHECK.due("msb, its first trade", x.person(msb, 0), 1);
        CHECK.due("scrawl 7", x.person(7, 0), -1);
        CHECK.due("scrawl -1", x.person(-1, 0), -1);
        CHECK.due("day -1", x.person(mb, -1), -1);
        CHECK.due("walk of a trade", x.walk(SMITH, 0, 0), -1);
        CHECK.due("walk of person 2", x.walk(MARK, 2, 0), -1);
        CHECK.due("walk of person -1", x.walk(MARK, -1, 0), -1);
        CHECK.due("walk, one wall", x.walk(MARK, 1, 0), 0);
        CHECK.due("walk on day -1", x.walk(MARK, 0, -1), -1);
    }

    private static void fewest() {
        // 0, 2 and 3 are all apart, and so are 1 and 2
        ScrawlHouse x = house();
        x.wall(0, 1);
        for (int i = 0; i < 4; i++) {
            scrawl(x, 0, "m");
        }
        int[] froms = {90, 60, 160, 0};
        int[] tos = {99, 90, 160, 10};
        for (int i = 0; i < 4; i++) {
            x.fact(1, i, 0, froms[i], tos[i]);
        }
        CHECK.due("persons", x.persons(MARK, 0), 3);
        CHECK.due("0", x.person(0, 0), 0);
        CHECK.due("1", x.person(1, 0), 0);
        CHECK.due("2", x.person(2, 0), 1);
        CHECK.due("3", x.person(3, 0), 2);
        // a path of four, where the least number for each by itself would take three: 0-2, 1-3, 2-3
        ScrawlHouse y = house();
        y.wall(0, 1);
        String[] texts = {"mb", "m", "ms", "m"};
        for (String text : texts) {
            scrawl(y, 0, text);
        }
        int[] yFroms = {0, 60, 100, 0};
        int[] yTos = {199, 70, 110, 5};
        for (int i = 0; i < 4; i++) {
            y.fact(1, i, 0, yFroms[i], yTos[i]);
        }
        CHECK.due("y 1 and 3 are 55 apart", y.persons(MARK, 0), 2);
        CHECK.due("y 3", y.person(3, 0), 0);
        y.fact(1, 1, 0, 66, 70);
        CHECK.due("y persons", y.persons(MARK, 0), 2);
        CHECK.due("y 0", y.person(0, 0), 0);
        CHECK.due("y 1, not the least by itself", y.person(1, 0), 1);
        CHECK.due("y 2", y.person(2, 0), 1);
        CHECK.due("y 3 now", y.person(3, 0), 0);
        y.fact(1, 1, 0, 0, 0);
        CHECK.due("where it can't be none are apart", y.person(1, 0), 0);
        CHECK.due("but trades are", y.person(2, 0), 1);
    }

    private static void firstTen() {
        ScrawlHouse x = house();
        x.wall(0, 1);
        x.wall(1, 1);
        for (int i = 0; i < 9; i++) {
            scrawl(x, 0, "mb");
        }
        scrawl(x, 0, "l");
        CHECK.due("one person", x.persons(MARK, 0), 1);
        int tenth = scrawl(x, 0, "ms");
        int eleventh = scrawl(x, 1, "mc");
        CHECK.due("two persons of ten scrawls", x.persons(MARK, 0), 2);
        CHECK.due("the tenth", x.person(tenth, 0), 1);
        CHECK.due("the eleventh", x.person(eleventh, 0), -1);
        CHECK.due("its name", x.reading(eleventh, 0, 2), MARK);
    }

    private static void walks() {
        ScrawlHouse x = house();
        int[] corners = {0, 1, 2, 1, 11};
        for (int corner : corners) {
            x.wall(corner, 1);
        }
        scrawl(x, 1, "m");
        CHECK.due("one wall", x.walk(MARK, 0, 0), 0);
        scrawl(x, 3, "m");
        CHECK.due("two walls at one corner", x.walk(MARK, 0, 0), 0);
        scrawl(x, 0, "m");
        CHECK.due("no street", x.walk(MARK, 0, 0), -2);
        x.street(0, 1, 50);
        CHECK.due("a street", x.walk(MARK, 0, 0), 50);
        x.street(1, 0, 60);
        CHECK.due("a longer one", x.walk(MARK, 0, 0), 50);
        x.street(5, 1, 20);
        x.street(0, 5, 20);
        CHECK.due("round about", x.walk(MARK, 0, 0), 40);
        scrawl(x, 2, "m");
        CHECK.due("one can't be come to", x.walk(MARK, 0, 0), -2);
        x.street(2, 1, 7);
        CHECK.due("three corners", x.walk(MARK, 0, 0), 47);
        x.street(2, 0, 30);
        CHECK.due("the middle changes", x.walk(MARK, 0, 0), 37);
        CHECK.due("no lucius", x.walk(LUCIUS, 0, 0), -1);
    }

    private static void walkOfEight() {
        // a star: each of eight corners 10 from the middle; fourteen times 10, and a short cut
        ScrawlHouse x = house();
        for (int i = 0; i < 8; i++) {
            x.wall(i, 1);
            scrawl(x, i, "m");
            x.street(i, 11, 10);
        }
        CHECK.due("a star of eight", x.walk(MARK, 0, 0), 140);
        x.street(3, 6, 1);
        CHECK.due("with a short cut", x.walk(MARK, 0, 0), 121);
    }

    private static void asOf() {
        ScrawlHouse x = house();
        x.wall(0, 1);
        x.wall(4, 1);
        x.street(0, 4, 9);
        int p = scrawl(x, 0, "m");
        x.next(1);
        int q = scrawl(x, 1, "m");
        x.next(1);
        x.fact(1, p, 0, 0, 0);
        x.fact(1, q, 0, 61, 61);
        x.next(1);
        Tell.drawing(x, q, 0, "l");
        CHECK.due("day 0", x.persons(MARK, 0), 1);
        CHECK.due("day 0, walk", x.walk(MARK, 0, 0), 0);
        CHECK.due("day 1, walk", x.walk(MARK, 0, 1), 9);
        CHECK.due("day 2", x.persons(MARK, 2), 2);
        CHECK.due("day 2, q", x.person(q, 2), 1);
        CHECK.due("day 2, walk", x.walk(MARK, 0, 2), 0);
        CHECK.due("day 3", x.persons(MARK, 3), 1);
        CHECK.due("day 3, lucius", x.person(q, 3), 0);
        CHECK.due("day 1, q", x.person(q, 1), 0);
        CHECK.due("day 0, q", x.person(q, 0), -1);
    }
}

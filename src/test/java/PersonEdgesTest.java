/** The edges that the document names of PERSONS and their WALKS: promises 26 to 28. */
public final class PersonEdgesTest {
    private static final Check CHECK = new Check();
    private static final int MIN = Integer.MIN_VALUE;
    private static final int MAX = Integer.MAX_VALUE;
    private static final int MARK = 0;
    private static final int LUCIUS = 1;
    private static final int TRADE = 2;

    public static void main(String[] args) {
        noSuchName();
        noSuchScrawl();
        noSuchPerson();
        firstName();
        firstTrades();
        apart();
        tenPersons();
        firstTen();
        fewest();
        firstOfSuch();
        walksOfOneWall();
        walksThatCantBe();
        leastWays();
        beginningAnywhere();
        longestWalk();
        asOf();
        CHECK.finishEdges(26, 27, 28);
    }

    /** The names m and l, and trades a to k, as WORDS 2 to 12; WALLS at CORNERS 0, 1, 2, 0. */
    private static ScrawlHouse house() {
        ScrawlHouse x = new ScrawlHouse();
        Tell.word(x, "m", 0);
        Tell.word(x, "l", 0);
        for (int i = 0; i < 11; i++) {
            Tell.word(x, "" + (char) ('a' + i), 1);
        }
        Tell.patterns(x, "name name? trade? trade?; trade name?;");
        int[] corners = {0, 1, 2, 0};
        for (int corner : corners) {
            x.wall(corner, 1);
        }
        return x;
    }

    private static int scrawl(ScrawlHouse x, int wall, String letters) {
        int s = x.scrawl(wall, 0, letters.length());
        Tell.drawing(x, s, 0, letters);
        return s;
    }

    private static int scrawl(ScrawlHouse x, String letters) {
        return scrawl(x, 0, letters);
    }

    private static void persons(ScrawlHouse x, String call, int... due) {
        for (int s = 0; s < due.length; s++) {
            CHECK.due(call + ", person of " + s, x.person(s, 999), due[s]);
        }
    }

    private static void noSuchName() {
        ScrawlHouse x = house();
        scrawl(x, "ma");
        CHECK.promise(26, "NONE: no such name");
        int[] noNames = {-1, TRADE, 12, 13, 79, 80, MIN, MAX};
        for (int name : noNames) {
            CHECK.due("persons(" + name + ", 0)", x.persons(name, 0), -1);
        }
        CHECK.promise(26, "none of a name that no READING has");
        CHECK.due("lucius", x.persons(LUCIUS, 0), 0);
        CHECK.due("mark ahead of all days", x.persons(MARK, -1), 0);
        CHECK.due("mark on day MIN", x.persons(MARK, MIN), 0);
        CHECK.due("mark on day MAX", x.persons(MARK, MAX), 1);
    }

    private static void noSuchScrawl() {
        ScrawlHouse x = house();
        x.next(1);
        int s = scrawl(x, "m");
        CHECK.promise(27, "NONE: no such SCRAWL, or not KNOWN then");
        int[] noScrawls = {-1, 1, 20, MIN, MAX};
        for (int one : noScrawls) {
            CHECK.due("person(" + one + ", 1)", x.person(one, 1), -1);
        }
        CHECK.due("day 0", x.person(s, 0), -1);
        CHECK.due("day MIN", x.person(s, MIN), -1);
        CHECK.due("day 1", x.person(s, 1), 0);
        CHECK.promise(27, "NONE: it has none");
        CHECK.due("no name in it", x.person(scrawl(x, "a"), 1), -1);
        CHECK.due("no reading", x.person(scrawl(x, "zz"), 1), -1);
    }

    private static void noSuchPerson() {
        ScrawlHouse x = house();
        scrawl(x, "ma");
        scrawl(x, "mb");
        CHECK.promise(28, "NONE: no such PERSON");
        int[] noPersons = {-1, 2, 10, MIN, MAX};
        for (int person : noPersons) {
            CHECK.due("walk of person " + person, x.walk(MARK, person, 0), -1);
        }
        CHECK.due("person 1", x.walk(MARK, 1, 0), 0);
        CHECK.due("person 0 of a name without any", x.walk(LUCIUS, 0, 0), -1);
        CHECK.due("person 0 ahead of all days", x.walk(MARK, 0, -1), -1);
        CHECK.promise(28, "NONE: no such name");
        int[] noNames = {-1, TRADE, 13, 80, MIN, MAX};
        for (int name : noNames) {
            CHECK.due("walk of name " + name, x.walk(name, 0, 0), -1);
        }
    }

    private static void firstName() {
        CHECK.promise(26, "SCRAWLS whose BEST READING has that name as its first one");
        ScrawlHouse x = house();
        scrawl(x, "ma");
        scrawl(x, "lmb");
        scrawl(x, "mlb");
        CHECK.due("marks", x.persons(MARK, 0), 2);
        CHECK.due("luciuses", x.persons(LUCIUS, 0), 1);
        CHECK.promise(27, "of its first name");
        persons(x, "first names", 0, 0, 1);
        CHECK.promise(27, "a trade ahead of the name is no name");
        int am = scrawl(x, "am");
        CHECK.due("am", x.person(am, 0), 0);
        CHECK.due("its name", x.reading(am, 0, 2), MARK);
    }

    private static void firstTrades() {
        CHECK.promise(26, "two can't be one, if both have a trade and the first ones are unlike");
        ScrawlHouse x = house();
        scrawl(x, "ma");
        scrawl(x, "ma");
        CHECK.due("the same trade", x.persons(MARK, 0), 1);
        scrawl(x, "m");
        CHECK.due("one without a trade", x.persons(MARK, 0), 1);
        scrawl(x, "mab");
        CHECK.due("the same first trade", x.persons(MARK, 0), 1);
        scrawl(x, "mba");
        CHECK.due("another first trade", x.persons(MARK, 0), 2);
        scrawl(x, "mb");
        CHECK.due("like that one", x.persons(MARK, 0), 2);
        persons(x, "trades", 0, 0, 0, 0, 1, 1);
    }

    private static void apart() {
        CHECK.promise(26, "or they are APART: more than 60 years");
        ScrawlHouse x = house();
        scrawl(x, "m");
        scrawl(x, "m");
        x.fact(1, 0, 0, 20, 40);
        x.fact(1, 1, 0, 100, 120);
        CHECK.due("60 years", x.persons(MARK, 0), 1);
        x.fact(1, 0, 0, 20, 39);
        CHECK.due("61 years", x.persons(MARK, 0), 2);
        CHECK.promise(27, "APART whichever is ahead");
        ScrawlHouse y = house();
        scrawl(y, "m");
        scrawl(y, "m");
        y.fact(1, 0, 0, 100, 120);
        y.fact(1, 1, 0, 20, 40);
        CHECK.due("60 years", y.person(1, 0), 0);
        y.fact(1, 1, 0, 20, 39);
        CHECK.due("61 years", y.person(1, 0), 1);
        CHECK.promise(27, "none are APART, if it can't be");
        y.fact(1, 0, 0, 99, 99);
        CHECK.due("spoilt", y.spoilt(0), 3);
        CHECK.due("not apart", y.person(1, 0), 0);
        CHECK.due("one person", y.persons(MARK, 0), 1);
    }

    private static void tenPersons() {
        CHECK.promise(26, "ten PERSONS of ten SCRAWLS");
        ScrawlHouse x = house();
        for (int i = 0; i < 10; i++) {
            scrawl(x, "m" + (char) ('a' + i));
            CHECK.due("persons " + (i + 1), x.persons(MARK, 0), i + 1);
        }
        persons(x, "ten", 0, 1, 2, 3, 4, 5, 6, 7, 8, 9);
        CHECK.due("walk of the tenth", x.walk(MARK, 9, 0), 0);
        CHECK.promise(26, "the first 10 SCRAWLS alone");
        int eleventh = scrawl(x, "mk");
        CHECK.due("still ten", x.persons(MARK, 0), 10);
        CHECK.promise(27, "NONE: it is none of the first 10");
        CHECK.due("the tenth", x.person(9, 0), 9);
        CHECK.due("the eleventh", x.person(eleventh, 0), -1);
        CHECK.due("though it has the name", x.reading(eleventh, 0, 2), MARK);
        CHECK.due("no walk of its own", x.walk(MARK, 10, 0), -1);
    }

    private static void firstTen() {
        CHECK.promise(27, "the first 10 of that name, others are not counted");
        ScrawlHouse x = house();
        for (int i = 0; i < 9; i++) {
            scrawl(x, "m");
            scrawl(x, "l");
        }
        int tenth = scrawl(x, 1, "m");
        int eleventh = scrawl(x, 2, "m");
        CHECK.due("the tenth", x.person(tenth, 0), 0);
        CHECK.due("the eleventh", x.person(eleventh, 0), -1);
        CHECK.promise(28, "the eleventh SCRAWL is on no one's way");
        x.street(0, 1, 5);
        CHECK.due("walk", x.walk(MARK, 0, 0), 5);
        CHECK.promise(27, "AS OF t the first 10 may be others");
        x.next(1);
        Tell.drawing(x, 0, 0, "l");
        CHECK.due("the eleventh is the tenth", x.person(eleventh, 1), 0);
        CHECK.due("as it was on day 0", x.person(eleventh, 0), -1);
        CHECK.due("a way to its wall is not there", x.walk(MARK, 0, 1), -2);
    }

    /** Years so far apart that a clash joins 0 with 2, 1 with 3, 2 with 3: 0 and 2 also by their trades. */
    private static ScrawlHouse pathOfFour() {
        ScrawlHouse x = house();
        String[] texts = {"ma", "m", "mb", "m"};
        int[] froms = {0, 66, 100, 0};
        int[] tos = {199, 70, 110, 5};
        for (int i = 0; i < 4; i++) {
            scrawl(x, texts[i]);
            x.fact(1, i, 0, froms[i], tos[i]);
        }
        return x;
    }

    private static void fewest() {
        CHECK.promise(26, "the fewest PERSONS into whom they can be parted");
        ScrawlHouse x = pathOfFour();
        CHECK.due("two, though the least number for each at its turn needs three", x.persons(MARK, 0), 2);
        CHECK.promise(27, "of such the first, by rising numbers");
        persons(x, "two persons", 0, 1, 1, 0);
    }

    private static void firstOfSuch() {
        CHECK.promise(27, "each SCRAWL is of the least PERSON that may be (0 the first)");
        ScrawlHouse x = house();
        scrawl(x, "m");
        CHECK.due("one alone", x.person(0, 0), 0);
        scrawl(x, "mb");
        scrawl(x, "m");
        scrawl(x, "ma");
        scrawl(x, "m");
        persons(x, "those without a trade go with the first", 0, 0, 0, 1, 0);
        CHECK.promise(27, "a PERSON's number is not that of a trade or of a HAND");
        scrawl(x, "mb");
        scrawl(x, "ma");
        persons(x, "all", 0, 0, 0, 1, 0, 0, 1);
    }

    private static void walksOfOneWall() {
        CHECK.promise(28, "the least way that passes one WALL: 0");
        ScrawlHouse x = house();
        scrawl(x, 0, "m");
        CHECK.due("one scrawl", x.walk(MARK, 0, 0), 0);
        scrawl(x, 0, "m");
        CHECK.due("two on one wall", x.walk(MARK, 0, 0), 0);
        scrawl(x, 3, "m");
        CHECK.due("two walls at one corner, without a street", x.walk(MARK, 0, 0), 0);
    }

    private static void walksThatCantBe() {
        CHECK.promise(28, "-2: some WALLS can't be come to from others");
        ScrawlHouse x = house();
        scrawl(x, 0, "m");
        scrawl(x, 1, "m");
        CHECK.due("no street", x.walk(MARK, 0, 0), -2);
        x.street(0, 2, 1);
        x.street(1, 3, 1);
        CHECK.due("streets that don't meet", x.walk(MARK, 0, 0), -2);
        x.street(2, 3, 1);
        CHECK.due("streets that meet", x.walk(MARK, 0, 0), 3);
        ScrawlHouse y = house();
        scrawl(y, 2, "m");
        scrawl(y, 0, "m");
        scrawl(y, 1, "m");
        y.street(0, 1, 4);
        CHECK.due("two of three", y.walk(MARK, 0, 0), -2);
        CHECK.promise(28, "WALLS of one's SCRAWLS alone, WALL 0 or not");
        ScrawlHouse z = house();
        scrawl(z, 1, "m");
        scrawl(z, 2, "m");
        z.street(1, 2, 6);
        CHECK.due("no way to wall 0", z.walk(MARK, 0, 0), 6);
        CHECK.promise(28, "walls of other PERSONS don't count");
        scrawl(y, 0, "l");
        scrawl(y, 1, "l");
        CHECK.due("lucius walks", y.walk(LUCIUS, 0, 0), 4);
    }

    private static void leastWays() {
        CHECK.promise(28, "the least way, by STREETS, either way along them");
        ScrawlHouse x = house();
        scrawl(x, 0, "m");
        scrawl(x, 1, "m");
        x.street(1, 0, 50);
        CHECK.due("against its telling", x.walk(MARK, 0, 0), 50);
        x.street(1, 0, 51);
        CHECK.due("a longer one beside it", x.walk(MARK, 0, 0), 50);
        x.street(0, 11, 20);
        x.street(10, 11, 9);
        x.street(10, 1, 20);
        CHECK.due("by corners without walls", x.walk(MARK, 0, 0), 49);
        x.street(0, 1, 48);
        CHECK.due("a shorter one", x.walk(MARK, 0, 0), 48);
    }

    private static void beginningAnywhere() {
        CHECK.promise(28, "beginning and ending anywhere");
        ScrawlHouse x = house();
        scrawl(x, 1, "m");
        scrawl(x, 0, "m");
        scrawl(x, 2, "m");
        x.street(0, 1, 10);
        x.street(1, 2, 20);
        CHECK.due("not in the order told, nor back", x.walk(MARK, 0, 0), 30);
        x.street(0, 2, 15);
        CHECK.due("another in the middle", x.walk(MARK, 0, 0), 25);
        CHECK.promise(28, "a CORNER may be passed twice");
        ScrawlHouse y = new ScrawlHouse();
        Tell.word(y, "m", 0);
        Tell.patterns(y, "name;");
        for (int i = 0; i < 3; i++) {
            y.wall(i, 1);
            scrawl(y, i, "m");
            y.street(i, 11, 7);
        }
        CHECK.due("a star of three", y.walk(MARK, 0, 0), 28);
    }

    private static void longestWalk() {
        CHECK.promise(28, "eight WALLS, with streets of 99 between");
        ScrawlHouse x = new ScrawlHouse();
        Tell.word(x, "m", 0);
        Tell.patterns(x, "name;");
        int[] corners = {0, 11, 5, 2, 9, 7, 3, 6};
        for (int i = 0; i < 8; i++) {
            x.wall(corners[i], 1);
            scrawl(x, i, "m");
        }
        for (int i = 0; i < 10; i++) {
            x.street(i, i + 1, 99);
        }
        CHECK.due("corner 11 is cut off", x.walk(MARK, 0, 0), -2);
        x.street(10, 11, 99);
        CHECK.due("from 0 to 11", x.walk(MARK, 0, 0), 11 * 99);
        ScrawlHouse y = new ScrawlHouse();
        Tell.word(y, "m", 0);
        Tell.patterns(y, "name;");
        for (int i = 0; i < 8; i++) {
            y.wall(i, 1);
            scrawl(y, i, "m");
            y.street(i, 11, 99);
        }
        CHECK.due("a star of eight", y.walk(MARK, 0, 0), 14 * 99);
    }

    private static void asOf() {
        ScrawlHouse x = house();
        scrawl(x, 0, "m");
        scrawl(x, 1, "ma");
        x.street(0, 1, 9);
        x.street(1, 2, 9);
        x.next(1);
        int late = scrawl(x, 2, "mb");
        x.next(1);
        x.fact(1, 0, 0, 0, 0);
        x.fact(1, 1, 0, 61, 61);
        x.next(1);
        Tell.drawing(x, late, 0, "la");
        CHECK.promise(26, "AS OF t");
        int[] marks = {1, 2, 2, 2, 2};
        for (int t = 0; t < 5; t++) {
            CHECK.due("marks on day " + t, x.persons(MARK, t), marks[t]);
        }
        CHECK.promise(27, "AS OF t");
        int[] persons = {-1, 1, 0, 0};
        for (int t = 0; t < 4; t++) {
            CHECK.due("late on day " + t, x.person(late, t), persons[t]);
        }
        CHECK.promise(28, "AS OF t");
        int[] walks = {9, 9, 18, 0, 0};
        for (int t = 0; t < 5; t++) {
            CHECK.due("walk of mark 0 on day " + t, x.walk(MARK, 0, t), walks[t]);
        }
    }
}

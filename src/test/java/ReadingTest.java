/** Promises 16 to 18: BEST READINGS, OUT, RIVALS. */
public final class ReadingTest {
    private static final Check CHECK = new Check();

    public static void main(String[] args) {
        plain();
        bestOfLikeCost();
        oncePerRowOfWords();
        rivalsAtMost();
        asOf();
        longest();
        toldLater();
        patternsSideBySide();
        CHECK.finish();
    }

    private static ScrawlHouse house(String patterns) {
        ScrawlHouse x = new ScrawlHouse();
        x.wall(0, 1);
        Tell.patterns(x, patterns);
        return x;
    }

    private static void plain() {
        ScrawlHouse x = house("name trade? office? thing;");
        int thing = Tell.word(x, "c", 3);
        int office = Tell.word(x, "bb", 2);
        int name = Tell.word(x, "a", 0);
        int other = Tell.word(x, "acc", 0);
        int trade = Tell.word(x, "bb", 1);
        x.scrawl(0, 0, 4);
        Tell.drawing(x, 0, 0, "abbc");
        CHECK.due("read", x.read(0, 0), 3);
        CHECK.due("OUT 0", x.octet(0), name);
        CHECK.due("OUT 1, the lesser number", x.octet(1), office);
        CHECK.due("OUT 2", x.octet(2), thing);
        CHECK.octetThrows(x, 3);
        CHECK.octetThrows(x, -1);
        CHECK.octetThrows(x, Integer.MAX_VALUE);
        CHECK.due("count(10)", x.count(10), 3);
        CHECK.due("cost", x.reading(0, 0, 0), 0);
        CHECK.due("rivals", x.reading(0, 0, 1), 2);
        CHECK.due("name", x.reading(0, 0, 2), name);
        CHECK.due("trade", x.reading(0, 0, 3), -1);
        CHECK.due("office", x.reading(0, 0, 4), office);
        CHECK.due("used without a photo", x.reading(0, 0, 5), 0);
        CHECK.due("what 6", x.reading(0, 0, 6), -1);
        CHECK.due("what -1", x.reading(0, 0, -1), -1);
        Tell.drawing(x, 0, 0, "accc");
        CHECK.due("read another", x.read(0, 0), 2);
        CHECK.due("OUT 0", x.octet(0), other);
        CHECK.octetThrows(x, 2);
        Tell.drawing(x, 0, 0, "zzzz");
        CHECK.due("no reading", x.read(0, 0), 0);
        CHECK.due("OUT stays", x.octet(1), thing);
        CHECK.due("count(10) stays", x.count(10), 2);
        for (int what = 0; what < 5; what++) {
            CHECK.due("no reading, what " + what, x.reading(0, 0, what), -1);
        }
        CHECK.due("no reading, what 5", x.reading(0, 0, 5), 0);
        CHECK.due("scrawl 1", x.read(1, 0), -1);
        CHECK.due("scrawl -1", x.read(-1, 0), -1);
        CHECK.due("day -1", x.read(0, -1), -1);
        CHECK.due("scrawl 1, what 5", x.reading(1, 0, 5), -1);
        CHECK.due("day -1, what 5", x.reading(0, -1, 5), -1);
        CHECK.due("trade word is there", trade, 4);
    }

    private static void bestOfLikeCost() {
        ScrawlHouse x = house("name name; name;");
        x.form(0, 3);
        x.form(1, 1);
        Tell.word(x, "aa", 0);
        Tell.word(x, "b", 0);
        Tell.word(x, "a", 0);
        Tell.word(x, "ab", 0);
        x.scrawl(0, 0, 2);
        Tell.photo(x, 0, 1, 2, 0, 3);
        // a costs 1 and 2, b 0 and 1: the least is b b
        CHECK.due("read", x.read(0, 0), 2);
        CHECK.due("OUT 0", x.octet(0), 1);
        CHECK.due("OUT 1", x.octet(1), 1);
        CHECK.due("cost", x.reading(0, 0, 0), 1);
        CHECK.due("rivals", x.reading(0, 0, 1), 1);
        // without a photo all cost 0: four rows of 2 + 1 letters and four of 1 + 2, ab b the first
        ScrawlHouse y = house("name name; name;");
        Tell.word(y, "ab", 0);
        Tell.word(y, "b", 0);
        Tell.word(y, "a", 0);
        Tell.word(y, "bc", 0);
        y.scrawl(0, 0, 3);
        CHECK.due("read y", y.read(0, 0), 2);
        CHECK.due("OUT 0 y", y.octet(0), 0);
        CHECK.due("OUT 1 y", y.octet(1), 1);
        CHECK.due("rivals y", y.reading(0, 0, 1), 8);
    }

    private static void oncePerRowOfWords() {
        ScrawlHouse x = house("name? name? name; name name?; name; name trade? name;");
        Tell.word(x, "a", 0);
        x.scrawl(0, 0, 1);
        x.scrawl(0, 0, 2);
        x.scrawl(0, 0, 3);
        x.scrawl(0, 0, 4);
        for (int s = 0; s < 3; s++) {
            CHECK.due("read " + s, x.read(s, 0), s + 1);
            CHECK.due("rivals " + s, x.reading(s, 0, 1), 1);
        }
        CHECK.due("four are too many", x.read(3, 0), 0);
        // one text of two SORTS are two WORDS
        Tell.word(x, "b", 1);
        Tell.word(x, "b", 0);
        CHECK.due("rivals 2", x.reading(2, 0, 1), 12);
    }

    private static void rivalsAtMost() {
        ScrawlHouse x = house("name name name; trade;");
        for (int i = 0; i < 10; i++) {
            Tell.word(x, "" + (char) ('a' + i), 0);
        }
        x.scrawl(0, 0, 3);
        CHECK.due("just 1000", x.reading(0, 0, 1), 1000);
        Tell.drawing(x, 0, 0, "j..");
        CHECK.due("100", x.reading(0, 0, 1), 100);
        Tell.drawing(x, 0, 0, "...");
        Tell.word(x, "abc", 1);
        CHECK.due("1001 are 1000", x.reading(0, 0, 1), 1000);
        x.read(0, 0);
        CHECK.due("the first", x.octet(0), 0);
    }

    private static void asOf() {
        ScrawlHouse x = house("name;");
        Tell.word(x, "a", 0);
        Tell.word(x, "b", 0);
        x.next(10);
        x.scrawl(0, 0, 1);
        x.next(10);
        Tell.drawing(x, 0, 1, "b");
        x.next(10);
        Tell.drawing(x, 0, 2, "a");
        CHECK.due("day 9", x.read(0, 9), -1);
        CHECK.due("day 10", x.reading(0, 10, 2), 0);
        CHECK.due("day 10, rivals", x.reading(0, 10, 1), 2);
        CHECK.due("day 19", x.reading(0, 19, 1), 2);
        CHECK.due("day 20", x.reading(0, 20, 2), 1);
        CHECK.due("day 30", x.read(0, 30), 0);
        CHECK.due("day 25", x.read(0, 25), 1);
        CHECK.due("day 25, OUT", x.octet(0), 1);
        x.habit(1, 0, 1);
        CHECK.due("a habit counts whatever t", x.reading(0, 20, 1), 1);
        CHECK.due("day 30 now", x.reading(0, 30, 0), 2);
        CHECK.due("a far day", x.reading(0, 99999, 0), 2);
        Tell.patterns(x, "trade;");
        CHECK.due("patterns count as they are now", x.read(0, 10), 0);
    }

    private static void longest() {
        ScrawlHouse x = house("name? trade? office? thing? other? name; name name name name name name;");
        Tell.word(x, "abcd", 0);
        Tell.word(x, "abcd", 1);
        Tell.word(x, "abcd", 2);
        Tell.word(x, "abcd", 3);
        Tell.word(x, "abcd", 4);
        Tell.word(x, "abcdabcdab", 0);
        x.scrawl(0, 0, 24);
        Tell.drawing(x, 0, 0, Tell.times("abcd", 6));
        CHECK.due("read 24 places", x.read(0, 0), 6);
        CHECK.due("all names", x.octet(1), 0);
        CHECK.due("two rows", x.reading(0, 0, 1), 2);
        CHECK.due("count(10)", x.count(10), 6);
    }

    /** What was read once is read anew when FORMS, WORDS, HABITS or PATTERNS change. */
    private static void toldLater() {
        ScrawlHouse x = house("name;");
        x.form(0, 1);
        x.form(1, 2);
        Tell.word(x, "b", 0);
        x.scrawl(0, 0, 1);
        x.scrawl(0, 0, 1);
        Tell.photo(x, 0, 4, 0);
        Tell.drawing(x, 1, 0, "a");
        CHECK.due("no form", x.read(0, 0), 0);
        CHECK.due("no word", x.read(1, 0), 0);
        x.form(1, 4);
        CHECK.due("a form told later", x.read(0, 0), 1);
        CHECK.due("its number", x.used(0, 1, 0), 1);
        CHECK.due("no habit", x.read(1, 0), 0);
        x.habit(0, 1, 0);
        CHECK.due("a habit told later", x.reading(1, 0, 0), 2);
        Tell.word(x, "a", 0);
        CHECK.due("a word told later", x.reading(1, 0, 0), 0);
        Tell.patterns(x, "trade;");
        CHECK.due("patterns told later", x.read(1, 0), 0);
        Tell.patterns(x, "name");
        CHECK.due("a fault", x.read(1, 0), 0);
        Tell.patterns(x, "name;");
        CHECK.due("patterns told again", x.read(1, 0), 1);
        Tell.word(x, "abcdefghij", 0);
        int ten = x.scrawl(0, 0, 10);
        CHECK.due("a word of ten", x.read(ten, 0), 1);
    }

    private static void patternsSideBySide() {
        ScrawlHouse x = house("name other? other? other? other? other?; office;");
        Tell.word(x, "a", 0);
        Tell.word(x, "b", 2);
        x.scrawl(0, 0, 2);
        CHECK.due("the end of one is not the beginning of the next", x.read(0, 0), 0);
        Tell.patterns(x, "name trade?; trade? office; thing other; office;");
        CHECK.due("nor are they joined", x.read(0, 0), 0);
        Tell.patterns(x, "office name; name name;");
        CHECK.due("two rows", x.reading(0, 0, 1), 2);
    }
}

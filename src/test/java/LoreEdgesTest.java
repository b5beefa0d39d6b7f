/** The edges that the document names of FORMS, WORDS, STREETS, WALLS and HABITS: promises 5 to 9. */
public final class LoreEdgesTest {
    private static final Check CHECK = new Check();
    private static final int MIN = Integer.MIN_VALUE;
    private static final int MAX = Integer.MAX_VALUE;

    public static void main(String[] args) {
        forms();
        formsThatAreThere();
        wordTexts();
        wordsOfOneSort();
        wordsFull();
        wordEmptiesTape();
        streets();
        streetsFull();
        streetsLead();
        walls();
        wallsFull();
        habits();
        habitsFull();
        habitsLead();
        asTheyAreNow();
        CHECK.finishEdges(5, 6, 7, 8, 9);
    }

    private static void forms() {
        CHECK.promise(5, "of a letter (0 a): its number (0 the first)");
        ScrawlHouse x = new ScrawlHouse();
        CHECK.due("form(0, 1)", x.form(0, 1), 0);
        CHECK.due("form(25, 255)", x.form(25, 255), 0);
        CHECK.due("form(25, 1)", x.form(25, 1), 1);
        CHECK.due("form(0, 255)", x.form(0, 255), 1);
        CHECK.promise(5, "NONE: no such letter");
        int[] noLetters = {-1, 26, 97, MIN, MAX};
        for (int letter : noLetters) {
            CHECK.due("form(" + letter + ", 1)", x.form(letter, 1), -1);
        }
        CHECK.promise(5, "NONE: no such STROKES (1 to 255)");
        int[] noStrokes = {0, -1, -255, 256, 257, MIN, MAX};
        for (int strokes : noStrokes) {
            CHECK.due("form(3, " + strokes + ")", x.form(3, strokes), -1);
        }
        CHECK.due("none of these was taken", x.form(3, 2), 0);
    }

    private static void formsThatAreThere() {
        CHECK.promise(5, "NONE: it is there");
        ScrawlHouse x = new ScrawlHouse();
        x.form(7, 9);
        CHECK.due("the same again", x.form(7, 9), -1);
        CHECK.due("the same of another letter", x.form(8, 9), 0);
        CHECK.due("another one", x.form(7, 10), 1);
        CHECK.due("the first again", x.form(7, 9), -1);
        CHECK.due("the second again", x.form(7, 10), -1);
        CHECK.promise(5, "NONE: there are 3");
        CHECK.due("the third", x.form(7, 11), 2);
        CHECK.due("a fourth", x.form(7, 12), -1);
        CHECK.due("one that is there", x.form(7, 11), -1);
        CHECK.due("another letter has room", x.form(8, 12), 1);
        x.wall(0, 1);
        x.scrawl(0, 0, 1);
        Tell.photo(x, 0, 12, 0);
        CHECK.due("the fourth may not be", x.cost(0, 0, 7, 0), -1);
        CHECK.due("that of another letter may", x.cost(0, 0, 8, 0), 0);
    }

    private static void wordTexts() {
        CHECK.promise(6, "1 to 10 letters");
        ScrawlHouse x = new ScrawlHouse();
        CHECK.due("none", Tell.word(x, "", 0), -1);
        CHECK.due("one", Tell.word(x, "a", 0), 0);
        CHECK.due("ten", Tell.word(x, "zzzzzzzzzz", 0), 1);
        CHECK.due("eleven", Tell.word(x, "zzzzzzzzzza", 0), -1);
        CHECK.due("240", Tell.word(x, Tell.times("a", 240), 0), -1);
        CHECK.promise(6, "letters a .. z alone");
        for (int sign = 0; sign < 256; sign++) {
            boolean letter = sign >= 'a' && sign <= 'z';
            ScrawlHouse y = new ScrawlHouse();
            CHECK.due("sign " + sign + " alone", Tell.word(y, "" + (char) sign, 0), letter ? 0 : -1);
            CHECK.due("sign " + sign + " at last", Tell.word(y, "b" + (char) sign, 0), letter ? 1 : -1);
        }
        CHECK.promise(6, "a SORT 0 .. 4");
        int[] noSorts = {-1, 5, MIN, MAX};
        for (int sort : noSorts) {
            CHECK.due("sort " + sort, Tell.word(x, "b", sort), -1);
        }
        for (int sort = 0; sort < 5; sort++) {
            CHECK.due("sort " + sort, Tell.word(x, "b", sort), 2 + sort);
        }
    }

    private static void wordsOfOneSort() {
        CHECK.promise(6, "NONE: it is there (a WORD of one SORT once)");
        ScrawlHouse x = new ScrawlHouse();
        Tell.word(x, "abcdefghij", 0);
        CHECK.due("again", Tell.word(x, "abcdefghij", 0), -1);
        CHECK.due("of another SORT", Tell.word(x, "abcdefghij", 1), 1);
        CHECK.due("its beginning", Tell.word(x, "abcdefghi", 0), 2);
        CHECK.due("its end", Tell.word(x, "bcdefghij", 0), 3);
        CHECK.due("its first letter", Tell.word(x, "a", 0), 4);
        CHECK.due("unlike in the last letter", Tell.word(x, "abcdefghik", 0), 5);
        CHECK.due("unlike in the first letter", Tell.word(x, "bbcdefghij", 0), 6);
        CHECK.due("that of another SORT again", Tell.word(x, "abcdefghij", 1), -1);
    }

    private static void wordsFull() {
        CHECK.promise(6, "NONE: there are 80");
        ScrawlHouse x = new ScrawlHouse();
        for (int i = 0; i < 80; i++) {
            CHECK.due("word " + i, Tell.word(x, "b" + (char) ('a' + i / 26) + (char) ('a' + i % 26), i % 5), i);
        }
        CHECK.due("one more", Tell.word(x, "q", 0), -1);
        CHECK.due("count(1)", x.count(1), 80);
        CHECK.due("the tape is empty", x.count(9), 0);
    }

    private static void wordEmptiesTape() {
        CHECK.promise(6, "the tape (empty then)");
        ScrawlHouse x = new ScrawlHouse();
        Tell.word(x, "ab", 0);
        CHECK.due("taken", x.count(9), 0);
        Tell.word(x, "ab", 0);
        CHECK.due("there already", x.count(9), 0);
        Tell.word(x, "ab", 5);
        CHECK.due("no such SORT", x.count(9), 0);
        Tell.word(x, "A", 0);
        CHECK.due("no letter", x.count(9), 0);
        Tell.word(x, Tell.times("a", 11), 0);
        CHECK.due("too long", x.count(9), 0);
        CHECK.due("nothing is left of it", x.word(0), -1);
    }

    private static void streets() {
        CHECK.promise(7, "CORNERS 0 .. 11");
        ScrawlHouse x = new ScrawlHouse();
        int[] noCorners = {-1, 12, MIN, MAX};
        for (int corner : noCorners) {
            CHECK.due("from " + corner, x.street(corner, 3, 5), false);
            CHECK.due("to " + corner, x.street(3, corner, 5), false);
            CHECK.due("both " + corner, x.street(corner, corner, 5), false);
        }
        CHECK.due("0 to 11", x.street(0, 11, 5), true);
        CHECK.due("11 to 0", x.street(11, 0, 5), true);
        CHECK.promise(7, "LONG 1 to 99");
        int[] noLengths = {0, -1, 100, MIN, MAX};
        for (int length : noLengths) {
            CHECK.due("length " + length, x.street(3, 4, length), false);
        }
        CHECK.due("length 1", x.street(3, 4, 1), true);
        CHECK.due("length 99", x.street(3, 4, 99), true);
        CHECK.promise(7, "two unlike CORNERS");
        for (int corner = 0; corner < 12; corner++) {
            CHECK.due("round corner " + corner, x.street(corner, corner, 5), false);
        }
        CHECK.due("count(2)", x.count(2), 4);
    }

    private static void streetsFull() {
        CHECK.promise(7, "false: there are 30");
        ScrawlHouse x = walkers();
        for (int i = 0; i < 30; i++) {
            CHECK.due("street " + i, x.street(2 + i % 5, 7 + i % 5, 1 + i), true);
        }
        CHECK.due("one more", x.street(0, 1, 1), false);
        CHECK.due("count(2)", x.count(2), 30);
        CHECK.due("it leads nowhere", x.walk(0, 0, 0), -2);
    }

    /** One person at CORNERS 0 and 1. */
    private static ScrawlHouse walkers() {
        ScrawlHouse x = new ScrawlHouse();
        Tell.word(x, "a", 0);
        Tell.patterns(x, "name;");
        x.wall(0, 1);
        x.wall(1, 1);
        x.scrawl(0, 0, 1);
        x.scrawl(1, 0, 1);
        return x;
    }

    private static void streetsLead() {
        CHECK.promise(7, "a STREET that was refused leads nowhere");
        ScrawlHouse x = walkers();
        x.street(0, 1, 0);
        x.street(0, 1, 100);
        x.street(0, 12, 1);
        CHECK.due("walk", x.walk(0, 0, 0), -2);
        CHECK.promise(7, "the longest is 99");
        x.street(1, 0, 99);
        CHECK.due("walk", x.walk(0, 0, 0), 99);
        CHECK.promise(7, "a second one between the same CORNERS stands beside the first");
        CHECK.due("a shorter one", x.street(0, 1, 1), true);
        CHECK.due("walk", x.walk(0, 0, 0), 1);
        CHECK.due("a longer one", x.street(0, 1, 50), true);
        CHECK.due("walk stays", x.walk(0, 0, 0), 1);
        CHECK.due("the same again", x.street(0, 1, 50), true);
        CHECK.due("count(2)", x.count(2), 4);
    }

    private static void walls() {
        CHECK.promise(8, "at a CORNER 0 .. 11");
        ScrawlHouse x = new ScrawlHouse();
        int[] noCorners = {-1, 12, MIN, MAX};
        for (int corner : noCorners) {
            CHECK.due("corner " + corner, x.wall(corner, 1), -1);
        }
        CHECK.due("corner 0", x.wall(0, 1), 0);
        CHECK.due("corner 11", x.wall(11, 1), 1);
        CHECK.due("two at one corner", x.wall(11, 1), 2);
        CHECK.promise(8, "with so many LAYERS (1 to 4)");
        int[] noLayers = {0, -1, 5, MIN, MAX};
        for (int layers : noLayers) {
            CHECK.due("layers " + layers, x.wall(3, layers), -1);
        }
        for (int layers = 1; layers <= 4; layers++) {
            CHECK.due("layers " + layers, x.wall(3, layers), 2 + layers);
            CHECK.due("its last layer", x.laid(2 + layers, layers - 1, 0, true), 199);
            CHECK.due("none behind it", x.laid(2 + layers, layers, 0, true), -1);
        }
    }

    private static void wallsFull() {
        CHECK.promise(8, "NONE: there are 8");
        ScrawlHouse x = new ScrawlHouse();
        for (int i = 0; i < 8; i++) {
            CHECK.due("wall " + i, x.wall(i, 4), i);
        }
        CHECK.due("one more", x.wall(8, 4), -1);
        CHECK.due("count(3)", x.count(3), 8);
        CHECK.due("it is not there", x.laid(8, 0, 0, false), -1);
        CHECK.due("the last is", x.laid(7, 3, 0, false), 0);
    }

    private static void habits() {
        ScrawlHouse x = new ScrawlHouse();
        CHECK.promise(9, "NONE: no such DRAWER");
        int[] noDrawers = {-1, 4, MIN, MAX};
        for (int d : noDrawers) {
            CHECK.due("drawer " + d, x.habit(d, 0, 1), -1);
        }
        CHECK.promise(9, "NONE: no such letters");
        int[] noLetters = {-1, 26, 32, MIN, MAX};
        for (int letter : noLetters) {
            CHECK.due("letter " + letter, x.habit(0, letter, 1), -1);
            CHECK.due("drawn " + letter, x.habit(0, 1, letter), -1);
        }
        CHECK.promise(9, "NONE: alike");
        for (int letter = -1; letter <= 26; letter++) {
            CHECK.due("letter " + letter + " as itself", x.habit(0, letter, letter), -1);
        }
        CHECK.promise(9, "how many HABITS d has");
        CHECK.due("a as z", x.habit(0, 0, 25), 1);
        CHECK.due("z as a", x.habit(0, 25, 0), 2);
        CHECK.due("drawer 3", x.habit(3, 0, 25), 1);
        CHECK.promise(9, "NONE: it is there");
        CHECK.due("a as z again", x.habit(0, 0, 25), -1);
        CHECK.due("a as y", x.habit(0, 0, 24), 3);
        CHECK.due("b as z", x.habit(0, 1, 25), 4);
        CHECK.due("a as z once more", x.habit(0, 0, 25), -1);
    }

    private static void habitsFull() {
        CHECK.promise(9, "NONE: there are 12, of each DRAWER by itself");
        ScrawlHouse x = new ScrawlHouse();
        for (int d = 0; d < 4; d++) {
            for (int i = 0; i < 12; i++) {
                CHECK.due("habit " + i + " of " + d, x.habit(d, 1 + i, 0), i + 1);
            }
            CHECK.due("a thirteenth of " + d, x.habit(d, 13, 0), -1);
            CHECK.due("one that is there", x.habit(d, 12, 0), -1);
        }
        x.wall(0, 1);
        x.scrawl(0, 0, 1);
        Tell.drawing(x, 0, 2, "a");
        CHECK.due("the twelfth counts", x.cost(0, 0, 12, 0), 2);
        CHECK.due("the thirteenth does not", x.cost(0, 0, 13, 0), -1);
    }

    private static void habitsLead() {
        CHECK.promise(9, "d may draw a letter as another one, not that one as the letter");
        ScrawlHouse x = new ScrawlHouse();
        x.wall(0, 1);
        x.scrawl(0, 0, 2);
        x.habit(1, 4, 5);
        Tell.drawing(x, 0, 1, "fe");
        CHECK.due("e drawn as f", x.cost(0, 0, 4, 0), 2);
        CHECK.due("f is never drawn as e", x.cost(0, 1, 5, 0), -1);
        CHECK.promise(9, "d alone has it");
        Tell.drawing(x, 0, 1, "..");
        Tell.drawing(x, 0, 2, "fe");
        CHECK.due("drawer 2", x.cost(0, 0, 4, 0), -1);
    }

    /** Day 0 knows a SCRAWL and its PHOTO; all else is told on day 9, and asked AS OF day 0. */
    private static void asTheyAreNow() {
        ScrawlHouse x = new ScrawlHouse();
        x.wall(0, 1);
        x.scrawl(0, 0, 1);
        x.scrawl(0, 0, 1);
        Tell.photo(x, 0, 1, 0);
        Tell.drawing(x, 1, 0, "b");
        x.next(9);
        CHECK.promise(6, "WORDS count as they are now, whatever t");
        Tell.patterns(x, "name;");
        x.scrawl(0, 0, 1);
        CHECK.due("no word", x.read(2, 9), 0);
        Tell.word(x, "a", 0);
        CHECK.due("a word", x.read(2, 9), 1);
        CHECK.promise(5, "FORMS count as they are now, whatever t");
        CHECK.due("no form", x.cost(0, 0, 0, 0), -1);
        CHECK.due("no reading", x.read(0, 0), 0);
        x.form(0, 1);
        CHECK.due("a form", x.cost(0, 0, 0, 0), 0);
        CHECK.due("a reading", x.read(0, 0), 1);
        CHECK.promise(9, "HABITS count as they are now, whatever t");
        CHECK.due("no habit", x.read(1, 0), 0);
        x.habit(0, 0, 1);
        CHECK.due("a habit", x.reading(1, 0, 0), 2);
        CHECK.promise(8, "WALLS count as they are now, whatever t");
        x.wall(1, 2);
        CHECK.due("a wall told on day 9", x.laid(1, 1, 0, true), 199);
        CHECK.due("and ahead of all days", x.laid(1, 1, -1, true), 199);
        CHECK.promise(7, "STREETS count as they are now, whatever t");
        ScrawlHouse y = walkers();
        y.next(9);
        CHECK.due("no street", y.walk(0, 0, 0), -2);
        y.street(0, 1, 8);
        CHECK.due("a street", y.walk(0, 0, 0), 8);
    }
}

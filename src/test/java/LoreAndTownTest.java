/** Promises 5 to 9: FORMS, WORDS, STREETS, WALLS, HABITS. */
public final class LoreAndTownTest {
    private static final Check CHECK = new Check();

    public static void main(String[] args) {
        forms();
        words();
        streets();
        walls();
        habits();
        CHECK.finish();
    }

    private static void forms() {
        ScrawlHouse x = new ScrawlHouse();
        CHECK.due("form(-1, 1)", x.form(-1, 1), -1);
        CHECK.due("form(26, 1)", x.form(26, 1), -1);
        CHECK.due("form(0, 0)", x.form(0, 0), -1);
        CHECK.due("form(0, -1)", x.form(0, -1), -1);
        CHECK.due("form(0, 256)", x.form(0, 256), -1);
        CHECK.due("form(25, 255)", x.form(25, 255), 0);
        CHECK.due("form(25, 255) again", x.form(25, 255), -1);
        CHECK.due("form(0, 255) of another letter", x.form(0, 255), 0);
        CHECK.due("form(25, 1)", x.form(25, 1), 1);
        CHECK.due("form(25, 1) again", x.form(25, 1), -1);
        CHECK.due("form(25, 2)", x.form(25, 2), 2);
        CHECK.due("form(25, 3), the fourth", x.form(25, 3), -1);
    }

    private static void words() {
        ScrawlHouse x = new ScrawlHouse();
        CHECK.due("word of nothing", x.word(0), -1);
        CHECK.due("word of ten", Tell.word(x, "abcdefghij", 0), 0);
        CHECK.due("word of eleven", Tell.word(x, "abcdefghijk", 0), -1);
        CHECK.due("tape is empty", x.count(9), 0);
        CHECK.due("sort -1", Tell.word(x, "a", -1), -1);
        CHECK.due("tape is empty, 2", x.count(9), 0);
        CHECK.due("sort 5", Tell.word(x, "a", 5), -1);
        CHECK.due("` is ahead of a", Tell.word(x, "`", 0), -1);
        CHECK.due("{ is behind z", Tell.word(x, "{", 0), -1);
        CHECK.due("A", Tell.word(x, "aA", 0), -1);
        CHECK.due("a blank", Tell.word(x, "a ", 0), -1);
        for (int sort = 0; sort < 5; sort++) {
            CHECK.due("az of sort " + sort, Tell.word(x, "az", sort), 1 + sort);
            CHECK.due("az of sort again " + sort, Tell.word(x, "az", sort), -1);
        }
        CHECK.due("count(1)", x.count(1), 6);
        for (int i = 6; i < 80; i++) {
            CHECK.due("word " + i, Tell.word(x, "b" + (char) ('a' + i / 26) + (char) ('a' + i % 26), 4), i);
        }
        CHECK.due("word 80", Tell.word(x, "q", 0), -1);
        CHECK.due("count(1)", x.count(1), 80);
        CHECK.due("tape is empty, 3", x.count(9), 0);
    }

    private static void streets() {
        ScrawlHouse x = new ScrawlHouse();
        CHECK.due("alike", x.street(3, 3, 5), false);
        CHECK.due("corner -1", x.street(-1, 3, 5), false);
        CHECK.due("corner 12", x.street(12, 3, 5), false);
        CHECK.due("to -1", x.street(3, -1, 5), false);
        CHECK.due("to 12", x.street(3, 12, 5), false);
        CHECK.due("length 0", x.street(3, 4, 0), false);
        CHECK.due("length 100", x.street(3, 4, 100), false);
        CHECK.due("length 99", x.street(0, 11, 99), true);
        CHECK.due("length 1", x.street(11, 0, 1), true);
        for (int i = 2; i < 30; i++) {
            CHECK.due("street " + i, x.street(0, 1, 50), true);
        }
        CHECK.due("street 30", x.street(0, 1, 50), false);
        CHECK.due("count(2)", x.count(2), 30);
    }

    private static void walls() {
        ScrawlHouse x = new ScrawlHouse();
        CHECK.due("corner -1", x.wall(-1, 1), -1);
        CHECK.due("corner 12", x.wall(12, 1), -1);
        CHECK.due("no layers", x.wall(0, 0), -1);
        CHECK.due("five layers", x.wall(0, 5), -1);
        for (int i = 0; i < 8; i++) {
            CHECK.due("wall " + i, x.wall(11 - i % 2 * 11, 1 + i % 4), i);
        }
        CHECK.due("wall 8", x.wall(0, 1), -1);
        CHECK.due("count(3)", x.count(3), 8);
        CHECK.due("layer 3 of wall 3", x.scrawl(3, 3, 1), 0);
        CHECK.due("layer 3 of wall 2", x.scrawl(2, 3, 1), -1);
    }

    private static void habits() {
        ScrawlHouse x = new ScrawlHouse();
        CHECK.due("drawer -1", x.habit(-1, 0, 1), -1);
        CHECK.due("drawer 4", x.habit(4, 0, 1), -1);
        CHECK.due("letter -1", x.habit(0, -1, 1), -1);
        CHECK.due("letter 26", x.habit(0, 26, 1), -1);
        CHECK.due("drawn -1", x.habit(0, 1, -1), -1);
        CHECK.due("drawn 26", x.habit(0, 1, 26), -1);
        CHECK.due("alike", x.habit(0, 1, 1), -1);
        for (int i = 0; i < 12; i++) {
            CHECK.due("habit " + i, x.habit(3, 25 - i, i), i + 1);
            CHECK.due("habit again " + i, x.habit(3, 25 - i, i), -1);
        }
        CHECK.due("a thirteenth", x.habit(3, 0, 25), -1);
        CHECK.due("of another drawer", x.habit(2, 25, 0), 1);
        CHECK.due("the other way round", x.habit(2, 0, 25), 2);
    }
}

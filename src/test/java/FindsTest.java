/** Promises 12 to 15: SCRAWLS, PHOTOS, DRAWINGS, and the COST of a letter by them. */
public final class FindsTest {
    private static final Check CHECK = new Check();

    public static void main(String[] args) {
        scrawls();
        photos();
        drawings();
        costs();
        lastOnesCount();
        CHECK.finish();
    }

    private static void scrawls() {
        ScrawlHouse x = new ScrawlHouse();
        CHECK.due("no wall", x.scrawl(0, 0, 1), -1);
        x.wall(0, 2);
        CHECK.due("wall -1", x.scrawl(-1, 0, 1), -1);
        CHECK.due("wall 1", x.scrawl(1, 0, 1), -1);
        CHECK.due("layer -1", x.scrawl(0, -1, 1), -1);
        CHECK.due("layer 2", x.scrawl(0, 2, 1), -1);
        CHECK.due("no places", x.scrawl(0, 0, 0), -1);
        CHECK.due("25 places", x.scrawl(0, 0, 25), -1);
        for (int i = 0; i < 20; i++) {
            CHECK.due("scrawl " + i, x.scrawl(0, i % 2, 1 + 23 * (i % 2)), i);
        }
        CHECK.due("scrawl 20", x.scrawl(0, 0, 1), -1);
        CHECK.due("count(5)", x.count(5), 20);
    }

    private static void photos() {
        ScrawlHouse x = new ScrawlHouse();
        CHECK.due("no scrawl", Tell.photo(x, 0, 1, 0), false);
        CHECK.due("tape is empty", x.count(9), 0);
        x.wall(0, 1);
        x.scrawl(0, 0, 2);
        CHECK.due("scrawl -1", Tell.photo(x, -1, 1, 0, 1, 0), false);
        CHECK.due("scrawl 1", Tell.photo(x, 1, 1, 0, 1, 0), false);
        CHECK.due("three bytes", Tell.photo(x, 0, 1, 0, 1), false);
        CHECK.due("five bytes", Tell.photo(x, 0, 1, 0, 1, 0, 1), false);
        CHECK.due("no bytes", Tell.photo(x, 0), false);
        CHECK.due("both seen and gone", Tell.photo(x, 0, 1, 0, 129, 128), false);
        CHECK.due("count(6)", x.count(6), 0);
        CHECK.due("nothing seen or gone", Tell.photo(x, 0, 0, 0, 0, 0), true);
        for (int i = 1; i < 60; i++) {
            CHECK.due("photo " + i, Tell.photo(x, 0, 240, 15, 15, 240), true);
        }
        CHECK.due("photo 60", Tell.photo(x, 0, 240, 15, 15, 240), false);
        CHECK.due("tape is empty, 2", x.count(9), 0);
        CHECK.due("count(6)", x.count(6), 60);
    }

    private static void drawings() {
        ScrawlHouse x = new ScrawlHouse();
        CHECK.due("no scrawl", Tell.drawing(x, 0, 0, "a"), false);
        CHECK.due("tape is empty", x.count(9), 0);
        x.wall(0, 1);
        x.scrawl(0, 0, 3);
        CHECK.due("scrawl -1", Tell.drawing(x, -1, 0, "abc"), false);
        CHECK.due("scrawl 1", Tell.drawing(x, 1, 0, "abc"), false);
        CHECK.due("drawer -1", Tell.drawing(x, 0, -1, "abc"), false);
        CHECK.due("drawer 4", Tell.drawing(x, 0, 4, "abc"), false);
        CHECK.due("two bytes", Tell.drawing(x, 0, 0, "ab"), false);
        CHECK.due("four bytes", Tell.drawing(x, 0, 0, "abcd"), false);
        CHECK.due("a blank", Tell.drawing(x, 0, 0, "a c"), false);
        CHECK.due("A", Tell.drawing(x, 0, 0, "abA"), false);
        CHECK.due("-", Tell.drawing(x, 0, 0, "-bc"), false);
        CHECK.due("/", Tell.drawing(x, 0, 0, "/bc"), false);
        CHECK.due("count(7)", x.count(7), 0);
        for (int i = 0; i < 40; i++) {
            CHECK.due("drawing " + i, Tell.drawing(x, 0, i % 4, "a.z"), true);
        }
        CHECK.due("drawing 40", Tell.drawing(x, 0, 0, "..."), false);
        CHECK.due("tape is empty, 2", x.count(9), 0);
        CHECK.due("count(7)", x.count(7), 40);
    }

    private static void costs() {
        ScrawlHouse x = new ScrawlHouse();
        x.next(5);
        x.form(0, 7);
        x.form(0, 31);
        x.form(0, 3);
        x.form(1, 8);
        x.wall(0, 1);
        x.scrawl(0, 0, 3);
        CHECK.due("place -1", x.cost(0, -1, 0, 5), -2);
        CHECK.due("place 3", x.cost(0, 3, 0, 5), -2);
        CHECK.due("letter -1", x.cost(0, 0, -1, 5), -2);
        CHECK.due("letter 26", x.cost(0, 0, 26, 5), -2);
        CHECK.due("scrawl 1", x.cost(1, 0, 0, 5), -2);
        CHECK.due("scrawl -1", x.cost(-1, 0, 0, 5), -2);
        CHECK.due("day 4", x.cost(0, 0, 0, 4), -2);
        CHECK.due("a day to come", x.cost(0, 0, 0, 5000), 0);
        CHECK.due("any letter without a photo", x.cost(0, 2, 25, 5), 0);
        Tell.photo(x, 0, 2, 253, 7, 0, 1, 4);
        CHECK.due("the fewest strokes not seen", x.cost(0, 0, 0, 5), 1);
        CHECK.due("b has not all seen", x.cost(0, 0, 1, 5), -1);
        CHECK.due("c has no form", x.cost(0, 0, 2, 5), -1);
        CHECK.due("all seen", x.cost(0, 1, 0, 5), 0);
        CHECK.due("a needs a stroke that is not gone", x.cost(0, 2, 0, 5), -1);
        // drawings: the letter, a habit (2), none, another one
        ScrawlHouse y = new ScrawlHouse();
        y.form(1, 3);
        y.wall(0, 1);
        y.scrawl(0, 0, 2);
        y.habit(0, 1, 0);
        y.habit(2, 1, 2);
        Tell.drawing(y, 0, 0, "a.");
        CHECK.due("a as drawn", y.cost(0, 0, 0, 0), 0);
        CHECK.due("b drawn as a", y.cost(0, 0, 1, 0), 2);
        CHECK.due("c is not drawn", y.cost(0, 0, 2, 0), -1);
        CHECK.due("none is drawn", y.cost(0, 1, 7, 0), 0);
        Tell.drawing(y, 0, 2, "c.");
        CHECK.due("b by both habits", y.cost(0, 0, 1, 0), 4);
        CHECK.due("a not as 2 drew", y.cost(0, 0, 0, 0), -1);
        Tell.photo(y, 0, 1, 2, 0, 1);
        CHECK.due("habits and strokes", y.cost(0, 0, 1, 0), 5);
        CHECK.due("photo alone forbids", y.cost(0, 1, 1, 0), -1);
        Tell.drawing(y, 0, 1, "c.");
        CHECK.due("drawer 1 has no habit", y.cost(0, 0, 1, 0), -1);
        CHECK.due("habit of 1, told later", y.habit(1, 1, 2), 1);
        CHECK.due("counts as it is now", y.cost(0, 0, 1, 0), 7);
    }

    private static void lastOnesCount() {
        ScrawlHouse x = new ScrawlHouse();
        x.form(0, 1);
        x.form(1, 2);
        x.wall(0, 1);
        x.scrawl(0, 0, 1);
        x.next(2);
        Tell.photo(x, 0, 1, 0);
        Tell.drawing(x, 0, 3, "a");
        x.next(2);
        Tell.photo(x, 0, 2, 0);
        CHECK.due("day 1, nothing yet", x.cost(0, 0, 1, 1), 0);
        CHECK.due("day 2, the first photo", x.cost(0, 0, 1, 2), -1);
        CHECK.due("day 3, the first photo", x.cost(0, 0, 0, 3), 0);
        CHECK.due("day 4, the second photo", x.cost(0, 0, 0, 4), -1);
        CHECK.due("day 4, but a is drawn", x.cost(0, 0, 1, 4), -1);
        Tell.drawing(x, 0, 3, "b");
        CHECK.due("day 4, b is drawn", x.cost(0, 0, 1, 4), 0);
        CHECK.due("day 2 as it was", x.cost(0, 0, 0, 2), 0);
        Tell.photo(x, 0, 3, 0);
        CHECK.due("the last of one day counts", x.cost(0, 0, 1, 4), -1);
        CHECK.due("forms count as they are now", x.form(1, 3), 1);
        CHECK.due("cost now", x.cost(0, 0, 1, 4), 0);
    }
}

/** The edges that the document names of SCRAWLS, PHOTOS, DRAWINGS and COSTS: promises 12 to 15. */
public final class FindEdgesTest {
    private static final Check CHECK = new Check();
    private static final int MIN = Integer.MIN_VALUE;
    private static final int MAX = Integer.MAX_VALUE;

    public static void main(String[] args) {
        scrawls();
        scrawlsFull();
        photoBytes();
        photoBothSeenAndGone();
        photosFull();
        drawingBytes();
        drawingSigns();
        drawingsFull();
        refusedPhotosAndDrawings();
        costOfNoneSuch();
        mayByPhoto();
        costByPhoto();
        mayByDrawings();
        costByDrawings();
        lastPhoto();
        lastDrawings();
        asOf();
        CHECK.finishEdges(12, 13, 14, 15);
    }

    /** A house with one WALL and a SCRAWL of so many PLACES. */
    private static ScrawlHouse house(int places) {
        ScrawlHouse x = new ScrawlHouse();
        x.wall(0, 1);
        x.scrawl(0, 0, places);
        return x;
    }

    private static void scrawls() {
        CHECK.promise(12, "NONE: no such WALL");
        ScrawlHouse x = new ScrawlHouse();
        CHECK.due("no wall is there", x.scrawl(0, 0, 1), -1);
        x.wall(0, 2);
        x.wall(0, 4);
        int[] noWalls = {-1, 2, 8, MIN, MAX};
        for (int wall : noWalls) {
            CHECK.due("wall " + wall, x.scrawl(wall, 0, 1), -1);
        }
        CHECK.promise(12, "NONE: no such LAYER");
        int[] noLayers = {-1, 2, 3, 4, MIN, MAX};
        for (int layer : noLayers) {
            CHECK.due("layer " + layer, x.scrawl(0, layer, 1), -1);
        }
        CHECK.due("layer 4 of 4", x.scrawl(1, 4, 1), -1);
        CHECK.promise(12, "NONE: not 1 to 24 PLACES");
        int[] noPlaces = {0, -1, 25, MIN, MAX};
        for (int places : noPlaces) {
            CHECK.due("places " + places, x.scrawl(0, 0, places), -1);
        }
        CHECK.due("count(5)", x.count(5), 0);
        CHECK.promise(12, "its number");
        CHECK.due("1 place", x.scrawl(0, 0, 1), 0);
        CHECK.due("24 places", x.scrawl(0, 1, 24), 1);
        CHECK.due("the last layer", x.scrawl(1, 3, 2), 2);
        CHECK.promise(12, "of so many PLACES");
        CHECK.due("place 0 of 1", x.cost(0, 0, 0, 0), 0);
        CHECK.due("place 1 of 1", x.cost(0, 1, 0, 0), -2);
        CHECK.due("place 23 of 24", x.cost(1, 23, 0, 0), 0);
        CHECK.due("place 24 of 24", x.cost(1, 24, 0, 0), -2);
    }

    private static void scrawlsFull() {
        CHECK.promise(12, "NONE: there are 20");
        ScrawlHouse x = new ScrawlHouse();
        x.wall(0, 1);
        for (int i = 0; i < 20; i++) {
            CHECK.due("scrawl " + i, x.scrawl(0, 0, 1), i);
        }
        CHECK.due("one more", x.scrawl(0, 0, 1), -1);
        CHECK.due("count(5)", x.count(5), 20);
        CHECK.due("the last is there", x.cost(19, 0, 0, 0), 0);
        CHECK.due("none behind it", x.cost(20, 0, 0, 0), -2);
    }

    private static String marks(int places, int seen, int gone) {
        return Tell.times("" + (char) seen + (char) gone, places);
    }

    private static boolean photo(ScrawlHouse x, int s, String bytes) {
        Tell.tape(x, bytes);
        return x.photo(s);
    }

    private static void photoBytes() {
        CHECK.promise(13, "false: no such one");
        ScrawlHouse x = house(2);
        int[] noScrawls = {-1, 1, 20, MIN, MAX};
        for (int s : noScrawls) {
            CHECK.due("scrawl " + s, photo(x, s, marks(2, 1, 2)), false);
            CHECK.due("the tape is empty", x.count(9), 0);
        }
        CHECK.promise(13, "false: other bytes than two for each PLACE");
        for (int bytes = 0; bytes <= 8; bytes++) {
            if (bytes != 4) {
                CHECK.due(bytes + " bytes", photo(x, 0, Tell.times("\u0001", bytes)), false);
                CHECK.due("the tape is empty", x.count(9), 0);
            }
        }
        CHECK.due("count(6)", x.count(6), 0);
        CHECK.promise(13, "SEEN, then GONE, for each PLACE");
        x.form(0, 3);
        CHECK.due("four bytes", Tell.photo(x, 0, 1, 2, 2, 0), true);
        CHECK.due("one seen, one gone", x.cost(0, 0, 0, 0), 1);
        CHECK.due("one neither seen nor gone", x.cost(0, 1, 0, 0), -1);
        CHECK.due("the tape is empty", x.count(9), 0);
        CHECK.promise(13, "of 1 to 24 PLACES");
        CHECK.due("one place", photo(house(1), 0, marks(1, 0, 0)), true);
        ScrawlHouse y = house(24);
        y.form(25, 255);
        CHECK.due("23 places", photo(y, 0, marks(23, 255, 0)), false);
        CHECK.due("24 places", photo(y, 0, marks(24, 255, 0)), true);
        CHECK.due("the first", y.cost(0, 0, 25, 0), 0);
        CHECK.due("the last", y.cost(0, 23, 25, 0), 0);
    }

    private static void photoBothSeenAndGone() {
        CHECK.promise(13, "false: one that is both");
        ScrawlHouse x = house(3);
        for (int stroke = 0; stroke < 8; stroke++) {
            int bit = 1 << stroke;
            CHECK.due("stroke " + stroke + " at first", Tell.photo(x, 0, bit, bit, 0, 0, 0, 0), false);
            CHECK.due("stroke " + stroke + " at last", Tell.photo(x, 0, 0, 0, 0, 0, 255, bit), false);
            CHECK.due("the tape is empty", x.count(9), 0);
        }
        CHECK.due("all both", Tell.photo(x, 0, 255, 255, 255, 255, 255, 255), false);
        CHECK.due("count(6)", x.count(6), 0);
        CHECK.due("none both", Tell.photo(x, 0, 85, 170, 255, 0, 0, 255), true);
        CHECK.due("seen here and gone there", Tell.photo(x, 0, 1, 0, 0, 1, 1, 0), true);
        CHECK.due("neither", Tell.photo(x, 0, 0, 0, 0, 0, 0, 0), true);
    }

    private static void photosFull() {
        CHECK.promise(13, "false: there are 60");
        ScrawlHouse x = house(1);
        x.scrawl(0, 0, 1);
        x.form(0, 1);
        x.form(1, 2);
        for (int i = 0; i < 60; i++) {
            CHECK.due("photo " + i, Tell.photo(x, i % 2, 1, 0), true);
        }
        CHECK.due("one more", Tell.photo(x, 0, 2, 0), false);
        CHECK.due("the tape is empty", x.count(9), 0);
        CHECK.due("count(6)", x.count(6), 60);
        CHECK.due("the last of 60 counts", x.cost(1, 0, 0, 0), 0);
        CHECK.due("the 61st does not", x.cost(0, 0, 1, 0), -1);
        CHECK.promise(13, "60 of 24 PLACES each");
        ScrawlHouse y = house(24);
        y.form(0, 1);
        for (int i = 0; i < 60; i++) {
            CHECK.due("photo " + i, photo(y, 0, marks(24, i == 59 ? 1 : 2, 0)), true);
        }
        CHECK.due("one more", photo(y, 0, marks(24, 1, 0)), false);
        CHECK.due("the last counts", y.cost(0, 23, 0, 0), 0);
    }

    private static void drawingBytes() {
        CHECK.promise(14, "false: no such SCRAWL");
        ScrawlHouse x = house(2);
        int[] noScrawls = {-1, 1, 20, MIN, MAX};
        for (int s : noScrawls) {
            CHECK.due("scrawl " + s, Tell.drawing(x, s, 0, "ab"), false);
            CHECK.due("the tape is empty", x.count(9), 0);
        }
        CHECK.promise(14, "false: no such DRAWER");
        int[] noDrawers = {-1, 4, MIN, MAX};
        for (int d : noDrawers) {
            CHECK.due("drawer " + d, Tell.drawing(x, 0, d, "ab"), false);
            CHECK.due("the tape is empty", x.count(9), 0);
        }
        CHECK.promise(14, "false: other bytes than one for each PLACE");
        for (int bytes = 0; bytes <= 5; bytes++) {
            if (bytes != 2) {
                CHECK.due(bytes + " bytes", Tell.drawing(x, 0, 0, Tell.times("a", bytes)), false);
                CHECK.due("the tape is empty", x.count(9), 0);
            }
        }
        CHECK.due("count(7)", x.count(7), 0);
        for (int d = 0; d < 4; d++) {
            CHECK.due("drawer " + d, Tell.drawing(x, 0, d, "ab"), true);
        }
        CHECK.due("the tape is empty", x.count(9), 0);
        CHECK.promise(14, "of 1 to 24 PLACES");
        ScrawlHouse y = house(24);
        CHECK.due("23", Tell.drawing(y, 0, 0, Tell.times("z", 23)), false);
        CHECK.due("24", Tell.drawing(y, 0, 0, Tell.times("z", 24)), true);
        CHECK.due("the last", y.cost(0, 23, 25, 0), 0);
        CHECK.due("another letter there", y.cost(0, 23, 24, 0), -1);
    }

    private static void drawingSigns() {
        CHECK.promise(14, "letters and . alone");
        for (int sign = 0; sign < 256; sign++) {
            boolean right = sign >= 'a' && sign <= 'z' || sign == '.';
            ScrawlHouse x = house(2);
            CHECK.due("sign " + sign + " at first", Tell.drawing(x, 0, 0, (char) sign + "a"), right);
            CHECK.due("sign " + sign + " at last", Tell.drawing(x, 0, 0, "." + (char) sign), right);
            CHECK.due("count(7)", x.count(7), right ? 2 : 0);
        }
    }

    private static void drawingsFull() {
        CHECK.promise(14, "false: there are 40");
        ScrawlHouse x = house(1);
        for (int i = 0; i < 40; i++) {
            CHECK.due("drawing " + i, Tell.drawing(x, 0, i % 4, "a"), true);
        }
        CHECK.due("one more", Tell.drawing(x, 0, 0, "."), false);
        CHECK.due("the tape is empty", x.count(9), 0);
        CHECK.due("count(7)", x.count(7), 40);
        CHECK.due("it does not count", x.cost(0, 0, 1, 0), -1);
        CHECK.due("photos have a limit of their own", Tell.photo(x, 0, 1, 0), true);
        CHECK.promise(14, "40 of 24 PLACES each");
        ScrawlHouse y = house(24);
        for (int i = 0; i < 40; i++) {
            CHECK.due("drawing " + i, Tell.drawing(y, 0, 0, Tell.times(i == 39 ? "b" : "a", 24)), true);
        }
        CHECK.due("one more", Tell.drawing(y, 0, 0, Tell.times("a", 24)), false);
        CHECK.due("the last counts", y.cost(0, 23, 1, 0), 0);
    }

    private static void refusedPhotosAndDrawings() {
        ScrawlHouse x = house(2);
        x.form(0, 1);
        x.form(1, 2);
        Tell.photo(x, 0, 1, 0, 1, 0);
        CHECK.promise(13, "one that was refused leaves the last PHOTO");
        Tell.photo(x, 0, 2, 0, 2, 2);
        CHECK.due("a at the first", x.cost(0, 0, 0, 0), 0);
        CHECK.due("b at the first", x.cost(0, 0, 1, 0), -1);
        CHECK.promise(14, "one that was refused leaves the last DRAWING");
        Tell.drawing(x, 0, 0, "a.");
        Tell.drawing(x, 0, 0, "bB");
        CHECK.due("a at the first", x.cost(0, 0, 0, 0), 0);
    }

    private static void costOfNoneSuch() {
        ScrawlHouse x = new ScrawlHouse();
        x.next(5);
        x.wall(0, 1);
        x.scrawl(0, 0, 3);
        CHECK.promise(15, "-2: no such SCRAWL");
        int[] noScrawls = {-1, 1, 20, MIN, MAX};
        for (int s : noScrawls) {
            CHECK.due("scrawl " + s, x.cost(s, 0, 0, 5), -2);
        }
        CHECK.promise(15, "-2: no such PLACE");
        int[] noPlaces = {-1, 3, 24, MIN, MAX};
        for (int place : noPlaces) {
            CHECK.due("place " + place, x.cost(0, place, 0, 5), -2);
        }
        CHECK.promise(15, "-2: no such letter");
        int[] noLetters = {-1, 26, 97, MIN, MAX};
        for (int letter : noLetters) {
            CHECK.due("letter " + letter, x.cost(0, 0, letter, 5), -2);
        }
        CHECK.promise(15, "-2: the SCRAWL is not KNOWN then");
        int[] daysAhead = {4, 0, -1, MIN};
        for (int t : daysAhead) {
            CHECK.due("day " + t, x.cost(0, 0, 0, t), -2);
        }
        CHECK.promise(15, "KNOWN on its day and on any behind it");
        int[] daysBehind = {5, 6, 999, 1000, MAX};
        for (int t : daysBehind) {
            CHECK.due("day " + t, x.cost(0, 2, 25, t), 0);
        }
        CHECK.promise(15, "-2 comes ahead of NONE");
        Tell.photo(x, 0, 255, 0, 255, 0, 255, 0);
        CHECK.due("may not be there", x.cost(0, 0, 0, 5), -1);
        CHECK.due("not known then", x.cost(0, 0, 0, 4), -2);
        CHECK.due("no such place", x.cost(0, 3, 0, 5), -2);
    }

    private static void mayByPhoto() {
        CHECK.promise(15, "without a PHOTO any letter MAY be, of COST 0");
        ScrawlHouse x = house(4);
        for (int letter = 0; letter < 26; letter++) {
            CHECK.due("letter " + letter, x.cost(0, 0, letter, 0), 0);
        }
        x.form(0, 6);
        Tell.photo(x, 0, 6, 0, 2, 4, 2, 248, 7, 0);
        CHECK.promise(15, "with one, if some FORM has all STROKES SEEN, and no others but of those GONE");
        CHECK.due("just those seen", x.cost(0, 0, 0, 0), 0);
        CHECK.due("one seen, the other gone", x.cost(0, 1, 0, 0), 1);
        CHECK.due("the other not gone", x.cost(0, 2, 0, 0), -1);
        CHECK.due("one more seen", x.cost(0, 3, 0, 0), -1);
        CHECK.promise(15, "a letter without a FORM may not be where a PHOTO is");
        CHECK.due("b", x.cost(0, 0, 1, 0), -1);
        CHECK.promise(15, "where nothing is SEEN or GONE no letter may be");
        Tell.photo(x, 0, 0, 0, 0, 6, 0, 255, 6, 249);
        CHECK.due("nothing seen or gone", x.cost(0, 0, 0, 0), -1);
        CHECK.due("all of it gone", x.cost(0, 1, 0, 0), 2);
        CHECK.due("everything gone", x.cost(0, 2, 0, 0), 2);
        CHECK.due("all others gone", x.cost(0, 3, 0, 0), 0);
    }

    private static void costByPhoto() {
        CHECK.promise(15, "the fewest STROKES not SEEN of such a FORM");
        ScrawlHouse x = house(3);
        x.form(0, 255);
        x.form(0, 7);
        x.form(0, 8);
        Tell.photo(x, 0, 1, 254, 0, 255, 16, 239);
        CHECK.due("255 would cost 7, 7 costs 2, 8 may not be", x.cost(0, 0, 0, 0), 2);
        CHECK.due("8 costs 1", x.cost(0, 1, 0, 0), 1);
        CHECK.due("255 alone may be", x.cost(0, 2, 0, 0), 7);
        CHECK.promise(15, "all 8 STROKES not SEEN cost 8");
        ScrawlHouse y = house(1);
        y.form(0, 255);
        Tell.photo(y, 0, 0, 255);
        CHECK.due("cost", y.cost(0, 0, 0, 0), 8);
    }

    private static void mayByDrawings() {
        ScrawlHouse x = house(2);
        Tell.drawing(x, 0, 0, "a.");
        CHECK.promise(15, "it is the letter drawn");
        CHECK.due("a", x.cost(0, 0, 0, 0), 0);
        CHECK.due("b", x.cost(0, 0, 1, 0), -1);
        CHECK.promise(15, "or none is drawn");
        CHECK.due("any letter", x.cost(0, 1, 25, 0), 0);
        CHECK.promise(15, "or drawn so by HABIT");
        x.habit(0, 1, 0);
        CHECK.due("b as a", x.cost(0, 0, 1, 0), 2);
        x.habit(0, 2, 1);
        CHECK.due("c as b as a is no habit", x.cost(0, 0, 2, 0), -1);
        CHECK.promise(15, "for each DRAWING that counts");
        Tell.drawing(x, 0, 3, "ab");
        CHECK.due("drawer 3 has no habit", x.cost(0, 0, 1, 0), -1);
        CHECK.due("a as both drew", x.cost(0, 0, 0, 0), 0);
        CHECK.due("none by 0, b by 3", x.cost(0, 1, 1, 0), 0);
        CHECK.due("none by 0, not c by 3", x.cost(0, 1, 2, 0), -1);
        CHECK.promise(15, "PHOTO and DRAWING both hold");
        x.form(0, 1);
        x.form(1, 2);
        Tell.photo(x, 0, 2, 0, 1, 0);
        CHECK.due("a is drawn, but not in the photo", x.cost(0, 0, 0, 0), -1);
        CHECK.due("a is in the photo, but not drawn", x.cost(0, 1, 0, 0), -1);
    }

    private static void costByDrawings() {
        CHECK.promise(15, "2 for each DRAWING in which it is drawn by HABIT");
        ScrawlHouse x = house(1);
        x.form(1, 255);
        for (int d = 0; d < 4; d++) {
            x.habit(d, 1, 2 + d);
            Tell.drawing(x, 0, d, "" + (char) ('c' + d));
            CHECK.due("drawn by " + (d + 1), x.cost(0, 0, 1, 0), 2 * d + 2);
        }
        CHECK.promise(15, "STROKES and HABITS together: 16 at most");
        Tell.photo(x, 0, 0, 255);
        CHECK.due("cost", x.cost(0, 0, 1, 0), 16);
        CHECK.promise(15, "a letter drawn as itself costs nothing, HABIT or not");
        Tell.drawing(x, 0, 3, "b");
        CHECK.due("cost", x.cost(0, 0, 1, 0), 14);
        Tell.drawing(x, 0, 2, ".");
        CHECK.due("none drawn", x.cost(0, 0, 1, 0), 12);
    }

    private static void lastPhoto() {
        CHECK.promise(15, "of a SCRAWL the last PHOTO counts, and no other");
        ScrawlHouse x = house(1);
        x.scrawl(0, 0, 1);
        x.form(0, 1);
        x.form(1, 2);
        Tell.photo(x, 0, 1, 0);
        CHECK.due("a", x.cost(0, 0, 0, 0), 0);
        Tell.photo(x, 0, 2, 0);
        CHECK.due("a no more", x.cost(0, 0, 0, 0), -1);
        CHECK.due("but b", x.cost(0, 0, 1, 0), 0);
        CHECK.promise(15, "of each SCRAWL its own PHOTO");
        CHECK.due("scrawl 1 has none", x.cost(1, 0, 25, 0), 0);
        Tell.photo(x, 1, 1, 0);
        CHECK.due("scrawl 1", x.cost(1, 0, 0, 0), 0);
        CHECK.due("scrawl 0 as it was", x.cost(0, 0, 1, 0), 0);
    }

    private static void lastDrawings() {
        CHECK.promise(15, "of each DRAWER the last DRAWING counts");
        ScrawlHouse x = house(1);
        x.scrawl(0, 0, 1);
        Tell.drawing(x, 0, 0, "a");
        Tell.drawing(x, 0, 1, "a");
        Tell.drawing(x, 0, 0, "b");
        CHECK.due("a: not by 0", x.cost(0, 0, 0, 0), -1);
        CHECK.due("b: not by 1", x.cost(0, 0, 1, 0), -1);
        Tell.drawing(x, 0, 1, "b");
        CHECK.due("b by both", x.cost(0, 0, 1, 0), 0);
        CHECK.promise(15, "of each SCRAWL its own DRAWINGS");
        Tell.drawing(x, 1, 0, "c");
        CHECK.due("scrawl 0 as it was", x.cost(0, 0, 1, 0), 0);
        CHECK.due("scrawl 1", x.cost(1, 0, 2, 0), 0);
        CHECK.due("scrawl 1, not b", x.cost(1, 0, 1, 0), -1);
    }

    private static void asOf() {
        ScrawlHouse x = house(1);
        x.form(0, 1);
        x.form(1, 2);
        x.next(3);
        Tell.photo(x, 0, 1, 0);
        x.next(3);
        Tell.photo(x, 0, 2, 0);
        CHECK.promise(13, "KNOWN from TODAY on: not on the day ahead, but on its day");
        int[] costsOfB = {0, 0, 0, -1, -1, -1, 0, 0};
        int[] costsOfA = {0, 0, 0, 0, 0, 0, -1, -1};
        for (int t = 0; t < 8; t++) {
            CHECK.due("b on day " + t, x.cost(0, 0, 1, t), costsOfB[t]);
            CHECK.due("a on day " + t, x.cost(0, 0, 0, t), costsOfA[t]);
        }
        CHECK.promise(14, "KNOWN from TODAY on: not on the day ahead, but on its day");
        ScrawlHouse y = house(1);
        y.next(3);
        Tell.drawing(y, 0, 2, "a");
        y.next(3);
        Tell.drawing(y, 0, 2, ".");
        for (int t = 0; t < 8; t++) {
            CHECK.due("b on day " + t, y.cost(0, 0, 1, t), t >= 3 && t < 6 ? -1 : 0);
        }
        CHECK.due("b on day MAX", y.cost(0, 0, 1, MAX), 0);
    }
}

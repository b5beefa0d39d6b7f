/** Promises 1 to 4 and 29: a new object, the tape, the days, what is counted. */
public final class TapeAndDaysTest {
    private static final Check CHECK = new Check();

    public static void main(String[] args) {
        newObject();
        tape();
        days();
        counts();
        CHECK.finish();
    }

    private static void newObject() {
        ScrawlHouse x = new ScrawlHouse();
        for (int what = 0; what <= 10; what++) {
            CHECK.due("new: count(" + what + ")", x.count(what), 0);
        }
        CHECK.due("count(-1)", x.count(-1), -1);
        CHECK.due("count(11)", x.count(11), -1);
        CHECK.due("fault()", x.fault(), 0);
        CHECK.octetThrows(x, 0);
        CHECK.due("NONE", ScrawlHouse.NONE, -1);
    }

    private static void tape() {
        ScrawlHouse x = new ScrawlHouse();
        for (int i = 1; i <= 12; i++) {
            CHECK.due("feed " + i, x.feed(0, 0, 0, 0, 0), 20 * i);
        }
        CHECK.due("feed a thirteenth time", x.feed(0, 0, 0, 0, 0), -1);
        CHECK.due("count(9)", x.count(9), 240);
        CHECK.due("end(241)", x.end(241), false);
        CHECK.due("end(-1)", x.end(-1), false);
        CHECK.due("end(MIN)", x.end(Integer.MIN_VALUE), false);
        CHECK.due("end(240)", x.end(240), true);
        CHECK.due("end(221)", x.end(221), true);
        CHECK.due("feed over 240", x.feed(1, 1, 1, 1, 1), -1);
        CHECK.due("count(9) stays", x.count(9), 221);
        CHECK.due("end(220)", x.end(220), true);
        CHECK.due("feed to 240", x.feed(1, 1, 1, 1, 1), 240);
        CHECK.due("end(0)", x.end(0), true);
        CHECK.due("end(1) of none", x.end(1), false);
        // the highest byte of a number comes first, and a new feed comes behind what is left
        CHECK.due("feed ab", x.feed(0x61620000, 0, 0, 0, 0), 20);
        CHECK.due("end(2)", x.end(2), true);
        CHECK.due("feed c", x.feed(0x63000000, 0, 0, 0, 0), 22);
        CHECK.due("end(3)", x.end(3), true);
        CHECK.due("word abc", x.word(0), 0);
        Tell.tape(x, "abc");
        CHECK.due("word abc again", x.word(0), -1);
        CHECK.due("the tape is empty then", x.count(9), 0);
        // bytes that are above 127 stay whole
        x.wall(0, 1);
        x.scrawl(0, 0, 1);
        x.form(0, 255);
        CHECK.due("photo with 255", Tell.photo(x, 0, 255, 0), true);
        CHECK.due("cost of a", x.cost(0, 0, 0, 0), 0);
        // all five numbers, in order
        x = new ScrawlHouse();
        x.feed(0x6e616d65, 0x3f207472, 0x6164653f, 0x206f6666, 0x6963653b);
        CHECK.due("patterns of twenty bytes", x.patterns(), 1);
    }

    private static void days() {
        ScrawlHouse x = new ScrawlHouse();
        CHECK.due("next(-1)", x.next(-1), -1);
        CHECK.due("next(1000)", x.next(1000), -1);
        CHECK.due("next(MAX)", x.next(Integer.MAX_VALUE), -1);
        CHECK.due("next(0)", x.next(0), 0);
        CHECK.due("next(998)", x.next(998), 998);
        CHECK.due("next(2)", x.next(2), -1);
        CHECK.due("count(0)", x.count(0), 998);
        CHECK.due("next(1)", x.next(1), 999);
        CHECK.due("next(0)", x.next(0), 999);
        CHECK.due("next(1) at the last day", x.next(1), -1);
        x = new ScrawlHouse();
        CHECK.due("next(999)", x.next(999), 999);
    }

    private static void counts() {
        ScrawlHouse x = new ScrawlHouse();
        x.next(3);
        Tell.word(x, "a", 0);
        Tell.word(x, "b", 0);
        for (int i = 0; i < 3; i++) {
            x.street(0, 1, 5);
        }
        for (int i = 0; i < 4; i++) {
            x.wall(0, 1);
        }
        Tell.patterns(x, "name;name;name;name;name;");
        for (int i = 0; i < 6; i++) {
            x.scrawl(0, 0, 1);
        }
        for (int i = 0; i < 7; i++) {
            Tell.photo(x, 0, 1, 0);
        }
        for (int i = 0; i < 8; i++) {
            Tell.drawing(x, 1, 0, "a");
        }
        for (int i = 0; i < 9; i++) {
            x.fact(1, 0, 0, 0, 199);
        }
        Tell.tape(x, "0123456789");
        CHECK.due("read", x.read(1, 3), 1);
        int[] due = {3, 2, 3, 4, 5, 6, 7, 8, 9, 10, 1};
        for (int what = 0; what < due.length; what++) {
            CHECK.due("count(" + what + ")", x.count(what), due[what]);
        }
    }
}

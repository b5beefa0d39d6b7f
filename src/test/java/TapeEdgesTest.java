/** The edges that the document names of a new object, the tape, the days, OUT and what is counted. */
public final class TapeEdgesTest {
    private static final Check CHECK = new Check();
    private static final int MIN = Integer.MIN_VALUE;
    private static final int MAX = Integer.MAX_VALUE;

    public static void main(String[] args) {
        newObject();
        twoObjects();
        lastCalls();
        feedOrder();
        feedFull();
        ends();
        days();
        octets();
        outStays();
        throwingChangesNothing();
        counts();
        refusedIsNotCounted();
        CHECK.finishEdges(1, 2, 3, 4, 17, 29);
    }

    /** A house in which the one-letter names a and b are read. */
    private static ScrawlHouse house() {
        ScrawlHouse x = new ScrawlHouse();
        Tell.word(x, "a", 0);
        Tell.word(x, "b", 0);
        Tell.patterns(x, "name name? name? name? name? name?;");
        x.wall(0, 1);
        return x;
    }

    private static int scrawl(ScrawlHouse x, String letters) {
        int s = x.scrawl(0, 0, letters.length());
        Tell.drawing(x, s, 0, letters);
        return s;
    }

    private static void newObject() {
        ScrawlHouse x = new ScrawlHouse();
        CHECK.promise(1, "no FORMS");
        for (int letter = 0; letter < 26; letter++) {
            CHECK.due("first form of " + letter, x.form(letter, 255), 0);
        }
        CHECK.promise(1, "no WALLS, SCRAWLS");
        CHECK.due("scrawl", x.scrawl(0, 0, 1), -1);
        CHECK.due("laid", x.laid(0, 0, 0, false), -1);
        CHECK.due("read", x.read(0, 0), -1);
        CHECK.due("photo", Tell.photo(x, 0, 1, 0), false);
        CHECK.due("drawing", Tell.drawing(x, 0, 0, "a"), false);
        CHECK.due("first wall", x.wall(0, 1), 0);
        CHECK.due("second wall", x.wall(1, 1), 1);
        CHECK.due("first scrawl", x.scrawl(0, 0, 1), 0);
        CHECK.due("second scrawl", x.scrawl(1, 0, 1), 1);
        CHECK.promise(1, "no WORDS, PATTERNS");
        CHECK.due("first word", Tell.word(x, "a", 0), 0);
        CHECK.due("no pattern tells it", x.read(0, 0), 0);
        CHECK.due("fault", x.fault(), 0);
        CHECK.promise(1, "no STREETS");
        Tell.patterns(x, "name;");
        CHECK.due("one person", x.persons(0, 0), 1);
        CHECK.due("who can't walk", x.walk(0, 0, 0), -2);
        CHECK.promise(1, "no FACTS");
        CHECK.due("spoilt", x.spoilt(0), -1);
        CHECK.due("first fact", x.fact(1, 0, 0, 0, 199), 0);
        CHECK.promise(1, "TODAY 0");
        CHECK.due("known on 0", x.span(0, 0, false), 0);
        CHECK.due("not known on -1", x.span(0, -1, false), -1);
        CHECK.promise(1, "an empty tape, OUT");
        ScrawlHouse y = new ScrawlHouse();
        CHECK.octetThrows(y, 0);
        CHECK.due("end(1)", y.end(1), false);
        CHECK.due("word", y.word(0), -1);
        CHECK.due("feed", y.feed(0, 0, 0, 0, 0), 20);
        CHECK.promise(1, "all counts are 0 at first");
        ScrawlHouse z = new ScrawlHouse();
        for (int what = 0; what <= 10; what++) {
            CHECK.due("count(" + what + ")", z.count(what), 0);
        }
    }

    private static void twoObjects() {
        CHECK.promise(1, "another object has nothing of the first");
        ScrawlHouse x = house();
        x.next(7);
        x.read(scrawl(x, "ab"), 7);
        x.fact(1, 0, 0, 3, 4);
        x.street(0, 1, 1);
        x.feed(1, 1, 1, 1, 1);
        ScrawlHouse y = new ScrawlHouse();
        for (int what = 0; what <= 10; what++) {
            CHECK.due("count(" + what + ")", y.count(what), 0);
        }
        CHECK.octetThrows(y, 0);
        y.wall(0, 1);
        y.scrawl(0, 0, 1);
        CHECK.due("span of the new one", y.span(0, 0, false), 0);
        CHECK.due("span of the first", x.span(0, 7, false), 3);
        CHECK.due("OUT of the first", x.octet(1), 1);
    }

    private static void lastCalls() {
        CHECK.promise(1, "an object is used for 512 calls: the last are answered like the first");
        ScrawlHouse x = new ScrawlHouse();
        x.wall(0, 1);
        x.scrawl(0, 0, 1);
        for (int call = 3; call <= 505; call++) {
            CHECK.due("call " + call, x.end(0), true);
        }
        CHECK.due("call 506", x.feed(0x6e616d65, 0x3b000000, 0, 0, 0), 20);
        CHECK.due("call 507", x.end(5), true);
        CHECK.due("call 508", x.patterns(), 1);
        CHECK.due("call 509", x.feed(0x61000000, 0, 0, 0, 0), 20);
        CHECK.due("call 510", x.end(1), true);
        CHECK.due("call 511", x.word(0), 0);
        CHECK.due("call 512", x.read(0, 0), 1);
    }

    private static void feedOrder() {
        CHECK.promise(2, "of each number the highest first");
        ScrawlHouse x = new ScrawlHouse();
        CHECK.due("feed", x.feed(0x61626364, 0x65666768, 0x696a0000, 0, 0), 20);
        CHECK.due("end", x.end(10), true);
        CHECK.due("word", x.word(0), 0);
        CHECK.due("told again", Tell.word(x, "abcdefghij", 0), -1);
        CHECK.promise(2, "twenty bytes, the five numbers in their order");
        CHECK.due("feed", x.feed(0x6e616d65, 0x3f6e616d, 0x653f6f66, 0x66696365, 0x3b6e613b), 20);
        CHECK.due("na is the first that can't come", x.patterns(), -1 - 17);
        CHECK.promise(2, "they come behind the tape");
        x.feed(0x7a000000, 0, 0, 0, 0);
        x.end(1);
        CHECK.due("feed", x.feed(0x79780000, 0, 0, 0, 0), 21);
        x.end(3);
        CHECK.due("word", x.word(0), 1);
        CHECK.due("told again", Tell.word(x, "zyx", 0), -1);
        CHECK.promise(2, "bytes 0 to 255, of numbers below 0 too");
        x.wall(0, 1);
        x.scrawl(0, 0, 10);
        x.form(0, 255);
        x.form(0, 128);
        x.form(0, 127);
        CHECK.due("feed", x.feed(0xff008000, 0x7f0000ff, 0x00800000, 0, MIN), 20);
        CHECK.due("photo", x.photo(0), true);
        int[] costs = {0, 0, 0, 1, 1, -1, -1, -1, 0, -1};
        for (int place = 0; place < 10; place++) {
            CHECK.due("cost at " + place, x.cost(0, place, 0, 0), costs[place]);
        }
    }

    private static void feedFull() {
        CHECK.promise(2, "how many it has, 240 at most");
        ScrawlHouse x = new ScrawlHouse();
        CHECK.due("feed 1", x.feed(0x61620000, 0, 0, 0, 0), 20);
        for (int i = 2; i <= 12; i++) {
            CHECK.due("feed " + i, x.feed(0, 0, 0, 0, 0), 20 * i);
        }
        CHECK.promise(2, "NONE, and none come, if it would have more than 240");
        CHECK.due("at 240", x.feed(-1, -1, -1, -1, -1), -1);
        CHECK.due("count(9)", x.count(9), 240);
        x.end(221);
        CHECK.due("at 221", x.feed(-1, -1, -1, -1, -1), -1);
        CHECK.due("count(9) stays", x.count(9), 221);
        CHECK.due("at 221 again", x.feed(0, 0, 0, 0, 0), -1);
        x.end(220);
        CHECK.due("at 220", x.feed(0, 0, 0, 0, 0), 240);
        x.end(2);
        CHECK.due("the first bytes stayed", x.word(0), 0);
        CHECK.due("they are ab", Tell.word(x, "ab", 0), -1);
    }

    private static void ends() {
        CHECK.promise(3, "the first n bytes alone: true");
        ScrawlHouse x = new ScrawlHouse();
        x.feed(0x61626364, 0, 0, 0, 0);
        CHECK.due("end of all", x.end(20), true);
        CHECK.due("all stay", x.count(9), 20);
        CHECK.due("end(3)", x.end(3), true);
        CHECK.due("count(9)", x.count(9), 3);
        CHECK.due("word", x.word(0), 0);
        CHECK.due("it is abc", Tell.word(x, "abc", 0), -1);
        CHECK.promise(3, "n may be 0");
        x.feed(0, 0, 0, 0, 0);
        CHECK.due("end(0)", x.end(0), true);
        CHECK.due("count(9)", x.count(9), 0);
        CHECK.due("end(0) of an empty tape", x.end(0), true);
        CHECK.promise(3, "false, if it has not so many");
        CHECK.due("end(1) of an empty tape", x.end(1), false);
        x.feed(0, 0, 0, 0, 0);
        CHECK.due("end(21) of twenty", x.end(21), false);
        CHECK.due("end(MAX)", x.end(MAX), false);
        CHECK.due("the tape stays", x.count(9), 20);
        x.end(5);
        CHECK.due("what was cut off is gone", x.end(6), false);
        CHECK.promise(3, "false, if n is below 0");
        CHECK.due("end(-1)", x.end(-1), false);
        CHECK.due("end(MIN)", x.end(MIN), false);
        CHECK.due("the tape stays", x.count(9), 5);
    }

    private static void days() {
        CHECK.promise(4, "0 to 999");
        CHECK.due("next(0)", new ScrawlHouse().next(0), 0);
        CHECK.due("next(999)", new ScrawlHouse().next(999), 999);
        CHECK.promise(4, "NONE: another n");
        ScrawlHouse x = new ScrawlHouse();
        x.next(5);
        int[] others = {-1, -5, 1000, MIN, MAX};
        for (int n : others) {
            CHECK.due("next(" + n + ")", x.next(n), -1);
            CHECK.due("TODAY stays", x.count(0), 5);
        }
        CHECK.promise(4, "NONE: it would be behind 999");
        CHECK.due("next(995)", x.next(995), -1);
        CHECK.due("TODAY stays", x.count(0), 5);
        CHECK.due("next(994)", x.next(994), 999);
        CHECK.due("next(1) on the last day", x.next(1), -1);
        CHECK.due("next(999) on the last day", x.next(999), -1);
        CHECK.due("next(0) on the last day", x.next(0), 999);
        CHECK.promise(4, "999, the last day, is a day like others");
        x.wall(0, 1);
        x.scrawl(0, 0, 1);
        CHECK.due("known on 999", x.span(0, 999, true), 199);
        CHECK.due("not known on 998", x.span(0, 998, true), -1);
    }

    private static void octets() {
        CHECK.promise(17, "byte k of OUT");
        ScrawlHouse x = house();
        x.read(scrawl(x, "abaabb"), 0);
        for (int k = 0; k < 6; k++) {
            CHECK.due("octet(" + k + ")", x.octet(k), "abaabb".charAt(k) - 'a');
        }
        CHECK.promise(17, "NoSuchElementException: there is none such");
        CHECK.octetThrows(new ScrawlHouse(), 0);
        CHECK.octetThrows(x, 6);
        CHECK.octetThrows(x, -1);
        CHECK.octetThrows(x, MIN);
        CHECK.octetThrows(x, MAX);
        CHECK.promise(17, "OUT is what the last reading was, and no more");
        x.read(scrawl(x, "b"), 0);
        CHECK.due("octet(0)", x.octet(0), 1);
        CHECK.octetThrows(x, 1);
        CHECK.promise(17, "the greatest byte is WORD 79");
        ScrawlHouse y = new ScrawlHouse();
        for (int i = 0; i < 79; i++) {
            Tell.word(y, "" + (char) ('a' + i / 26) + (char) ('a' + i % 26), 1);
        }
        CHECK.due("word", Tell.word(y, "z", 0), 79);
        Tell.patterns(y, "name;");
        y.wall(0, 1);
        y.scrawl(0, 0, 1);
        CHECK.due("read", y.read(0, 0), 1);
        CHECK.due("octet(0)", y.octet(0), 79);
    }

    private static void outStays() {
        ScrawlHouse x = house();
        x.next(1);
        int ab = scrawl(x, "ab");
        int none = scrawl(x, "zz");
        x.read(ab, 1);
        CHECK.promise(16, "0 (OUT stays): there is none");
        CHECK.due("read", x.read(none, 1), 0);
        CHECK.due("count(10)", x.count(10), 2);
        CHECK.due("octet(1)", x.octet(1), 1);
        CHECK.promise(16, "NONE leaves OUT as it was");
        CHECK.due("read of none such", x.read(2, 1), -1);
        CHECK.due("read of one not known", x.read(ab, 0), -1);
        CHECK.due("count(10)", x.count(10), 2);
        CHECK.due("octet(0)", x.octet(0), 0);
        CHECK.promise(18, "reading and the others leave OUT as it was");
        int b = scrawl(x, "b");
        CHECK.due("reading", x.reading(b, 1, 2), 1);
        CHECK.due("persons", x.persons(1, 1), 1);
        CHECK.due("count(10)", x.count(10), 2);
        CHECK.due("octet(0)", x.octet(0), 0);
    }

    private static void throwingChangesNothing() {
        CHECK.promise(17, "a call that throws changes nothing");
        ScrawlHouse x = house();
        x.next(4);
        x.read(scrawl(x, "ba"), 4);
        x.fact(1, 0, 0, 5, 6);
        x.street(0, 1, 2);
        x.feed(0x61000000, 0, 0, 0, 0);
        int[] ahead = new int[11];
        for (int what = 0; what <= 10; what++) {
            ahead[what] = x.count(what);
        }
        CHECK.octetThrows(x, 2);
        CHECK.octetThrows(x, -7);
        for (int what = 0; what <= 10; what++) {
            CHECK.due("count(" + what + ")", x.count(what), ahead[what]);
        }
        CHECK.due("octet(0)", x.octet(0), 1);
        CHECK.due("octet(1)", x.octet(1), 0);
        CHECK.due("span", x.span(0, 4, true), 6);
        x.end(1);
        CHECK.due("the tape's a", x.word(0), -1);
    }

    private static void counts() {
        CHECK.promise(29, "NONE for another what");
        ScrawlHouse x = new ScrawlHouse();
        int[] others = {-1, 11, MIN, MAX};
        for (int what : others) {
            CHECK.due("count(" + what + ")", x.count(what), -1);
        }
        CHECK.promise(29, "0 TODAY .. 10 bytes of OUT, each by itself");
        x.next(1);
        Tell.word(x, "a", 0);
        Tell.word(x, "b", 0);
        Tell.patterns(x, "name; name name; name name name; name; name;");
        for (int i = 0; i < 3; i++) {
            x.street(i, 5, 1);
        }
        for (int i = 0; i < 4; i++) {
            x.wall(i, 1);
        }
        for (int i = 0; i < 6; i++) {
            x.scrawl(0, 0, 3);
        }
        for (int i = 0; i < 7; i++) {
            Tell.photo(x, 1, 0, 0, 0, 0, 0, 0);
        }
        for (int i = 0; i < 8; i++) {
            Tell.drawing(x, 2, 0, "aba");
        }
        for (int i = 0; i < 9; i++) {
            x.fact(1, 0, 0, 0, 9);
        }
        CHECK.due("read", x.read(2, 1), 3);
        Tell.tape(x, "0123456789");
        int[] due = {1, 2, 3, 4, 5, 6, 7, 8, 9, 10, 3};
        for (int what = 0; what <= 10; what++) {
            CHECK.due("count(" + what + ")", x.count(what), due[what]);
        }
    }

    private static void refusedIsNotCounted() {
        CHECK.promise(29, "what was refused is not counted");
        ScrawlHouse x = house();
        scrawl(x, "a");
        int[] ahead = new int[11];
        for (int what = 0; what <= 10; what++) {
            ahead[what] = x.count(what);
        }
        CHECK.due("word", Tell.word(x, "a", 0), -1);
        CHECK.due("street", x.street(0, 0, 1), false);
        CHECK.due("wall", x.wall(12, 1), -1);
        CHECK.due("patterns", Tell.patterns(x, "name;name"), -10);
        CHECK.due("scrawl", x.scrawl(1, 0, 1), -1);
        CHECK.due("photo", Tell.photo(x, 0, 1, 1), false);
        CHECK.due("drawing", Tell.drawing(x, 0, 0, "A"), false);
        CHECK.due("fact", x.fact(1, 1, 0, 0, 0), -2);
        CHECK.due("next", x.next(1000), -1);
        CHECK.due("end", x.end(1), false);
        CHECK.due("read", x.read(1, 0), -1);
        for (int what = 0; what <= 10; what++) {
            CHECK.due("count(" + what + ")", x.count(what), ahead[what]);
        }
    }
}

/** The edges that the document names of READINGS: promises 16 and 18. */
public final class ReadingEdgesTest {
    private static final Check CHECK = new Check();
    private static final int MIN = Integer.MIN_VALUE;
    private static final int MAX = Integer.MAX_VALUE;

    public static void main(String[] args) {
        noneSuch();
        oneLetterForEachPlace();
        oneToSixWords();
        longestWords();
        leftOut();
        sixItemsSideBySide();
        leastCost();
        firstOfLikeOnes();
        rivals();
        rivalsByWhicheverPattern();
        rivalsAtMost();
        whats();
        firstOfEachSort();
        greatestCost();
        asOf();
        CHECK.finishEdges(16, 18);
    }

    private static ScrawlHouse house(String patterns) {
        ScrawlHouse x = new ScrawlHouse();
        x.wall(0, 1);
        Tell.patterns(x, patterns);
        return x;
    }

    private static int scrawl(ScrawlHouse x, String letters) {
        int s = x.scrawl(0, 0, letters.length());
        Tell.drawing(x, s, 0, letters);
        return s;
    }

    /** The WORDS' numbers of a reading, put behind one another with blanks. */
    private static String words(ScrawlHouse x, int s, int t) {
        StringBuilder text = new StringBuilder();
        int many = x.read(s, t);
        for (int k = 0; k < many; k++) {
            text.append(k == 0 ? "" : " ").append(x.octet(k));
        }
        return text.toString();
    }

    private static void reads(String call, String got, String want) {
        CHECK.due(call + ": " + got + ", due is " + want, got.equals(want), true);
    }

    private static void noneSuch() {
        ScrawlHouse x = house("name;");
        Tell.word(x, "a", 0);
        x.next(5);
        x.scrawl(0, 0, 1);
        CHECK.promise(16, "NONE: no such one");
        int[] noScrawls = {-1, 1, 20, MIN, MAX};
        for (int s : noScrawls) {
            CHECK.due("read(" + s + ", 5)", x.read(s, 5), -1);
        }
        CHECK.promise(16, "NONE: not KNOWN then");
        int[] daysAhead = {4, 0, -1, MIN};
        for (int t : daysAhead) {
            CHECK.due("read(0, " + t + ")", x.read(0, t), -1);
        }
        CHECK.promise(16, "KNOWN on its day and on any behind it");
        int[] daysBehind = {5, 6, 999, 1000, MAX};
        for (int t : daysBehind) {
            CHECK.due("read(0, " + t + ")", x.read(0, t), 1);
        }
        CHECK.promise(16, "NONE comes ahead of 0");
        Tell.patterns(x, "");
        CHECK.due("there is none", x.read(0, 5), 0);
        CHECK.due("not known", x.read(0, 4), -1);
    }

    private static void oneLetterForEachPlace() {
        CHECK.promise(16, "WORDS that have one letter for each PLACE");
        ScrawlHouse x = house("name; name name;");
        Tell.word(x, "abc", 0);
        int[] due = {0, 0, 1, 0, 0, 2, 0};
        for (int places = 1; places <= 7; places++) {
            int s = x.scrawl(0, 0, places);
            CHECK.due("of " + places + " places", x.read(s, 0), due[places - 1]);
        }
        CHECK.promise(16, "all of which MAY be there");
        CHECK.due("abc", x.read(scrawl(x, "abc"), 0), 1);
        CHECK.due("the first letter may not", x.read(scrawl(x, "bbc"), 0), 0);
        CHECK.due("the last letter may not", x.read(scrawl(x, "abb"), 0), 0);
        CHECK.due("one in the second word may not", x.read(scrawl(x, "abcabd"), 0), 0);
        CHECK.due("abcabc", x.read(scrawl(x, "abcabc"), 0), 2);
    }

    private static void oneToSixWords() {
        CHECK.promise(16, "1 to 6 WORDS: how many");
        ScrawlHouse x = house("name name? name? name? name? name?;");
        Tell.word(x, "ab", 0);
        for (int many = 1; many <= 6; many++) {
            int s = x.scrawl(0, 0, 2 * many);
            CHECK.due(many + " words", x.read(s, 0), many);
            CHECK.due("count(10)", x.count(10), many);
        }
        CHECK.due("seven words", x.read(x.scrawl(0, 0, 14), 0), 0);
        CHECK.promise(16, "the longest: 24 PLACES");
        Tell.word(x, "abcd", 0);
        Tell.word(x, "bcdbcdbcda", 0);
        reads("six of four", words(x, scrawl(x, Tell.times("abcd", 6)), 0), "1 1 1 1 1 1");
        reads("two of ten", words(x, scrawl(x, "abbcdbcdbcdabcdbcdbcdaab"), 0), "0 2 2 0");
    }

    private static void longestWords() {
        CHECK.promise(16, "a WORD of 10 letters, of the last SORT too");
        ScrawlHouse x = house("name name?; other;");
        Tell.word(x, "a", 0);
        Tell.word(x, "aaaaaaaaaa", 4);
        reads("ten places", words(x, x.scrawl(0, 0, 10), 0), "1");
        reads("two places", words(x, x.scrawl(0, 0, 2), 0), "0 0");
        CHECK.promise(16, "of 24 PLACES, the last WORD of one letter");
        Tell.patterns(x, "other other name name name name;");
        reads("24 places", words(x, x.scrawl(0, 0, 24), 0), "1 1 0 0 0 0");
        CHECK.promise(16, "the same PLACES parted in two ways");
        ScrawlHouse y = house("name other; trade office other;");
        Tell.word(y, "ab", 0);
        Tell.word(y, "a", 1);
        Tell.word(y, "b", 2);
        Tell.word(y, "c", 4);
        int abc = scrawl(y, "abc");
        reads("the first", words(y, abc, 0), "0 3");
        CHECK.due("both", y.reading(abc, 0, 1), 2);
    }

    private static void sixItemsSideBySide() {
        CHECK.promise(16, "eight PATTERNS, each by itself, though of 6 ITEMS");
        ScrawlHouse x = house(" name other?other?other?other?other?;office?trade;"
                + "trade office?name?name?name?name?;thing;thing?thing;thing;thing;trade?thing;");
        Tell.word(x, "n", 0);
        Tell.word(x, "t", 1);
        Tell.word(x, "o", 2);
        Tell.word(x, "h", 3);
        Tell.word(x, "x", 4);
        CHECK.due("count(4)", x.count(4), 8);
        String[] right = {"n", "nxxxxx", "t", "ot", "to", "tonnnn", "tnnnn", "h", "hh", "th"};
        for (String text : right) {
            CHECK.due(text, x.read(scrawl(x, text), 0), text.length());
        }
        String[] wrong = {"nt", "not", "o", "nxt", "oto", "tt", "ttn", "hhh", "tonh", "x"};
        for (String text : wrong) {
            CHECK.due(text, x.read(scrawl(x, text), 0), 0);
        }
    }

    private static void leftOut() {
        CHECK.promise(16, "of SORTS as a PATTERN tells (? may be left out)");
        ScrawlHouse x = house("name? trade office?;");
        Tell.word(x, "n", 0);
        Tell.word(x, "t", 1);
        Tell.word(x, "o", 2);
        String[] right = {"t", "nt", "to", "nto"};
        for (String text : right) {
            CHECK.due(text, x.read(scrawl(x, text), 0), text.length());
        }
        String[] wrong = {"n", "o", "no", "tn", "ot", "tt", "ntoo"};
        for (String text : wrong) {
            CHECK.due(text, x.read(scrawl(x, text), 0), 0);
        }
        CHECK.promise(16, "one PATTERN by itself, not two joined");
        Tell.patterns(x, "name trade; office;");
        CHECK.due("nto", x.read(scrawl(x, "nto"), 0), 0);
        Tell.patterns(x, "name trade?; office? trade;");
        CHECK.due("no", x.read(scrawl(x, "no"), 0), 0);
    }

    private static void leastCost() {
        CHECK.promise(16, "BEST: the least COST, ahead of any number");
        ScrawlHouse x = house("name;");
        Tell.word(x, "a", 0);
        Tell.word(x, "b", 0);
        Tell.word(x, "c", 0);
        x.form(0, 7);
        x.form(1, 3);
        x.form(2, 1);
        int s = x.scrawl(0, 0, 1);
        Tell.photo(x, s, 1, 254);
        reads("c has all seen", words(x, s, 0), "2");
        CHECK.due("cost", x.reading(s, 0, 0), 0);
        CHECK.due("those of more cost are no rivals", x.reading(s, 0, 1), 1);
        Tell.photo(x, s, 2, 253);
        reads("b lacks one", words(x, s, 0), "1");
        CHECK.due("cost", x.reading(s, 0, 0), 1);
        Tell.photo(x, s, 4, 251);
        reads("a alone may be", words(x, s, 0), "0");
        CHECK.due("cost", x.reading(s, 0, 0), 2);
        CHECK.promise(16, "the least COST, of whichever SORT and length");
        Tell.patterns(x, "name name; trade;");
        Tell.word(x, "cc", 1);
        int pair = x.scrawl(0, 0, 2);
        Tell.photo(x, pair, 0, 255, 0, 255);
        x.habit(0, 2, 25);
        Tell.drawing(x, pair, 0, "z.");
        CHECK.due("cc or c c, both by habit", x.reading(pair, 0, 1), 2);
        x.habit(0, 1, 25);
        Tell.patterns(x, "name; trade;");
        Tell.word(x, "ab", 0);
        Tell.word(x, "bb", 0);
        CHECK.due("cc alone, behind bb of more cost", x.reading(pair, 0, 1), 1);
        CHECK.due("its cost", x.reading(pair, 0, 0), 4);
        CHECK.promise(16, "its COST: of all letters");
        ScrawlHouse y = house("name name; name;");
        y.form(0, 3);
        y.form(1, 7);
        Tell.word(y, "ab", 0);
        Tell.word(y, "b", 0);
        Tell.word(y, "a", 0);
        int two = y.scrawl(0, 0, 2);
        Tell.photo(y, two, 1, 254, 0, 255);
        CHECK.due("a a: 1 and 2", y.reading(two, 0, 0), 3);
        reads("a a", words(y, two, 0), "2 2");
    }

    private static void firstOfLikeOnes() {
        CHECK.promise(16, "of like ones the first (WORD by WORD the lesser number)");
        ScrawlHouse x = house("name name? name?;");
        Tell.word(x, "b", 0);
        Tell.word(x, "aab", 0);
        Tell.word(x, "a", 0);
        Tell.word(x, "aa", 0);
        reads("aab: 1, not 2 2 0 or 3 0", words(x, scrawl(x, "aab"), 0), "1");
        reads("aaa: 2 2 2, not 2 3 or 3 2", words(x, scrawl(x, "aaa"), 0), "2 2 2");
        reads("baa: 0 2 2, not 0 3", words(x, scrawl(x, "baa"), 0), "0 2 2");
        CHECK.promise(16, "the first WORD weighs more than the second");
        ScrawlHouse y = house("name name; trade other;");
        Tell.word(y, "ab", 1);
        Tell.word(y, "a", 0);
        Tell.word(y, "bc", 0);
        Tell.word(y, "c", 4);
        reads("0 3, not 1 2", words(y, scrawl(y, "abc"), 0), "0 3");
        CHECK.promise(16, "one text of two SORTS: the lesser number");
        ScrawlHouse z = house("name; thing;");
        Tell.word(z, "a", 3);
        Tell.word(z, "a", 0);
        reads("the thing", words(z, scrawl(z, "a"), 0), "0");
    }

    private static void rivals() {
        CHECK.promise(18, "RIVALS: how many READINGS have the least COST");
        ScrawlHouse x = house("name;");
        Tell.word(x, "a", 0);
        Tell.word(x, "b", 0);
        Tell.word(x, "c", 0);
        int s = x.scrawl(0, 0, 1);
        CHECK.due("three", x.reading(s, 0, 1), 3);
        x.form(0, 1);
        x.form(1, 3);
        x.form(2, 5);
        Tell.photo(x, s, 1, 254);
        CHECK.due("a alone", x.reading(s, 0, 1), 1);
        Tell.photo(x, s, 0, 255);
        CHECK.due("a alone again", x.reading(s, 0, 1), 1);
        x.form(1, 2);
        CHECK.due("a and b", x.reading(s, 0, 1), 2);
        Tell.photo(x, s, 6, 249);
        CHECK.due("none", x.reading(s, 0, 1), -1);
    }

    private static void rivalsByWhicheverPattern() {
        CHECK.promise(18, "READINGS as WORDS, by whichever PATTERN: each once");
        ScrawlHouse x = house("name; name?name; name name?; name?name?name; name;");
        Tell.word(x, "a", 0);
        for (int places = 1; places <= 3; places++) {
            int s = x.scrawl(0, 0, places);
            CHECK.due("of " + places, x.reading(s, 0, 1), 1);
        }
        CHECK.promise(18, "one text of two SORTS are two WORDS");
        Tell.word(x, "a", 1);
        Tell.patterns(x, "name; trade; name; name?trade; name trade?;");
        CHECK.due("a", x.reading(0, 0, 1), 2);
        CHECK.due("aa", x.reading(1, 0, 1), 1);
    }

    private static void rivalsAtMost() {
        CHECK.promise(18, "1000 at most are counted");
        ScrawlHouse x = house("name trade; thing;");
        for (int i = 0; i < 37; i++) {
            Tell.word(x, "" + (char) ('a' + i / 26) + (char) ('a' + i % 26), 0);
        }
        for (int i = 0; i < 27; i++) {
            Tell.word(x, "" + (char) ('a' + i / 26) + (char) ('a' + i % 26), 1);
        }
        int s = x.scrawl(0, 0, 4);
        CHECK.due("37 * 27", x.reading(s, 0, 1), 999);
        Tell.word(x, "aaaa", 3);
        CHECK.due("one more", x.reading(s, 0, 1), 1000);
        Tell.word(x, "bbbb", 3);
        CHECK.due("yet one more", x.reading(s, 0, 1), 1000);
        Tell.patterns(x, "thing;");
        CHECK.due("those two alone", x.reading(s, 0, 1), 2);
        CHECK.promise(18, "far more than 1000, and BEST is still the first");
        ScrawlHouse z = house("name name name name name name;");
        for (int i = 0; i < 26; i++) {
            Tell.word(z, "" + (char) ('z' - i), 0);
        }
        int six = z.scrawl(0, 0, 6);
        CHECK.due("26 by the power of 6", z.reading(six, 0, 1), 1000);
        reads("the first", words(z, six, 0), "0 0 0 0 0 0");
    }

    private static void whats() {
        ScrawlHouse x = house("name;");
        Tell.word(x, "a", 0);
        x.next(2);
        int a = scrawl(x, "a");
        int none = scrawl(x, "b");
        CHECK.promise(18, "NONE: another what");
        int[] others = {-1, 6, MIN, MAX};
        for (int what : others) {
            CHECK.due("what " + what, x.reading(a, 2, what), -1);
            CHECK.due("what " + what + " without a reading", x.reading(none, 2, what), -1);
        }
        CHECK.promise(18, "NONE: no READING (5: 0)");
        for (int what = 0; what < 5; what++) {
            CHECK.due("what " + what, x.reading(none, 2, what), -1);
        }
        CHECK.due("what 5", x.reading(none, 2, 5), 0);
        CHECK.promise(18, "NONE: no such SCRAWL, of 5 too");
        int[] noScrawls = {-1, 2, 20, MIN, MAX};
        for (int s : noScrawls) {
            for (int what = 0; what <= 5; what++) {
                CHECK.due("scrawl " + s + ", what " + what, x.reading(s, 2, what), -1);
            }
        }
        CHECK.promise(18, "NONE: not KNOWN then, of 5 too");
        int[] daysAhead = {1, -1, MIN};
        for (int t : daysAhead) {
            for (int what = 0; what <= 5; what++) {
                CHECK.due("day " + t + ", what " + what, x.reading(a, t, what), -1);
            }
        }
        CHECK.promise(18, "5 how many letters were USED: 0 without a PHOTO");
        CHECK.due("what 5", x.reading(a, 2, 5), 0);
        CHECK.due("what 0", x.reading(a, 2, 0), 0);
    }

    private static void firstOfEachSort() {
        ScrawlHouse x = house("other? name? name? trade? trade? office; other office? office?; thing;");
        String[] texts = {"n", "m", "t", "u", "o", "p", "x", "h"};
        int[] sorts = {0, 0, 1, 1, 2, 2, 4, 3};
        for (int i = 0; i < texts.length; i++) {
            Tell.word(x, texts[i], sorts[i]);
        }
        CHECK.promise(18, "2 its first name, 3 its first trade, 4 its first office");
        int all = scrawl(x, "xmnuto");
        CHECK.due("name", x.reading(all, 0, 2), 1);
        CHECK.due("trade", x.reading(all, 0, 3), 3);
        CHECK.due("office", x.reading(all, 0, 4), 4);
        int offices = scrawl(x, "xpo");
        CHECK.due("the first office", x.reading(offices, 0, 4), 5);
        CHECK.promise(18, "2 to 4 NONE, if there is none such");
        CHECK.due("no name", x.reading(offices, 0, 2), -1);
        CHECK.due("no trade", x.reading(offices, 0, 3), -1);
        int thing = scrawl(x, "h");
        for (int what = 2; what <= 4; what++) {
            CHECK.due("of a thing alone, what " + what, x.reading(thing, 0, what), -1);
        }
        CHECK.due("but it has a cost", x.reading(thing, 0, 0), 0);
        CHECK.promise(18, "a thing is no name, neither its own nor that of the next SCRAWL");
        int next = scrawl(x, "x");
        CHECK.due("the next has none", x.reading(next, 0, 2), -1);
        Tell.drawing(x, thing, 1, "h");
        CHECK.due("read again", x.read(thing, 0), 1);
        CHECK.due("the next has still none", x.reading(next, 0, 2), -1);
        for (int s = next + 1; s < 20; s++) {
            CHECK.due("scrawl " + s, x.reading(scrawl(x, "h"), 0, 2), -1);
        }
    }

    private static void greatestCost() {
        CHECK.promise(18, "COST of 24 letters, each worn and drawn by four HABITS");
        ScrawlHouse x = house("name name name;");
        Tell.word(x, "bbbbbbbb", 0);
        x.form(1, 255);
        int s = x.scrawl(0, 0, 24);
        for (int d = 0; d < 4; d++) {
            x.habit(d, 1, 0);
            Tell.drawing(x, s, d, Tell.times("a", 24));
        }
        int[] marks = new int[48];
        for (int place = 0; place < 24; place++) {
            marks[2 * place + 1] = 255;
        }
        Tell.photo(x, s, marks);
        CHECK.due("cost", x.reading(s, 0, 0), 24 * 16);
        CHECK.due("read", x.read(s, 0), 3);
    }

    private static void asOf() {
        CHECK.promise(18, "AS OF t: what was KNOWN on t or ahead");
        ScrawlHouse x = house("name;");
        Tell.word(x, "a", 0);
        Tell.word(x, "b", 0);
        x.next(1);
        int s = x.scrawl(0, 0, 1);
        x.next(1);
        Tell.drawing(x, s, 0, "b");
        x.next(1);
        Tell.drawing(x, s, 1, "a");
        x.next(1);
        Tell.drawing(x, s, 0, ".");
        int[] names = {-1, 0, 1, -1, 0, 0};
        int[] rivals = {-1, 2, 1, -1, 1, 1};
        for (int t = 5; t >= 0; t--) {
            CHECK.due("name on day " + t, x.reading(s, t, 2), names[t]);
            CHECK.due("rivals on day " + t, x.reading(s, t, 1), rivals[t]);
        }
        CHECK.promise(18, "AS OF t, where all four DRAWERS drew anew");
        ScrawlHouse y = house("name;");
        Tell.word(y, "a", 0);
        Tell.word(y, "b", 0);
        int drawn = y.scrawl(0, 0, 1);
        for (int i = 0; i < 8; i++) {
            Tell.drawing(y, drawn, i % 4, i < 4 ? "a" : "b");
            y.next(i == 3 ? 1 : 0);
        }
        CHECK.due("day 0", y.reading(drawn, 0, 2), 0);
        CHECK.due("day 1", y.reading(drawn, 1, 2), 1);
        CHECK.due("day 0 again", y.reading(drawn, 0, 2), 0);
        CHECK.promise(16, "PATTERNS count as they are now");
        Tell.patterns(x, "trade;");
        CHECK.due("day 1", x.read(s, 1), 0);
        Tell.patterns(x, "name;");
        CHECK.due("day 1 again", x.read(s, 1), 1);
    }
}

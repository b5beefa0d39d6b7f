/** Promises 19 to 21: FORMS USED, AGREE and QUARREL, HANDS. */
public final class HandsTest {
    private static final Check CHECK = new Check();

    public static void main(String[] args) {
        used();
        agree();
        hands();
        asOf();
        apartEitherWay();
        withOneOfThem();
        CHECK.finish();
    }

    /** Letters a to c with two FORMS each that share no stroke: 1 and 2, 4 and 8, 16 and 32. */
    private static ScrawlHouse house() {
        ScrawlHouse x = new ScrawlHouse();
        for (int letter = 0; letter < 3; letter++) {
            x.form(letter, 1 << 2 * letter);
            x.form(letter, 2 << 2 * letter);
        }
        x.wall(0, 1);
        Tell.patterns(x, "name;");
        Tell.word(x, "abc", 0);
        return x;
    }

    /** A SCRAWL that reads abc, its letters in the FORMS told (9: both worn, so none is USED). */
    private static int abc(ScrawlHouse x, int a, int b, int c) {
        int s = x.scrawl(0, 0, 3);
        int[] forms = {a, b, c};
        int[] marks = new int[6];
        for (int i = 0; i < 3; i++) {
            marks[2 * i] = forms[i] == 9 ? 0 : 1 << 2 * i + forms[i];
            marks[2 * i + 1] = forms[i] == 9 ? 3 << 2 * i : 0;
        }
        Tell.photo(x, s, marks);
        return s;
    }

    private static void used() {
        ScrawlHouse x = new ScrawlHouse();
        x.form(0, 1);
        x.form(0, 3);
        x.form(0, 7);
        x.form(1, 1);
        x.wall(0, 1);
        Tell.patterns(x, "name;");
        Tell.word(x, "aa", 0);
        Tell.word(x, "b", 0);
        x.scrawl(0, 0, 2);
        CHECK.due("no photo", x.used(0, 0, 0), -1);
        Tell.photo(x, 0, 1, 6, 1, 2);
        CHECK.due("two may be at both", x.used(0, 0, 0), -1);
        CHECK.due("none", x.reading(0, 0, 5), 0);
        Tell.photo(x, 0, 1, 2, 3, 4);
        CHECK.due("one may be at both", x.used(0, 0, 0), 1);
        CHECK.due("one letter", x.reading(0, 0, 5), 1);
        CHECK.due("b is not in it", x.used(0, 1, 0), -1);
        CHECK.due("letter -1", x.used(0, -1, 0), -1);
        CHECK.due("letter 26", x.used(0, 26, 0), -1);
        CHECK.due("scrawl 1", x.used(1, 0, 0), -1);
        CHECK.due("scrawl -1", x.used(-1, 0, 0), -1);
        CHECK.due("day -1", x.used(0, 0, -1), -1);
        Tell.photo(x, 0, 1, 0, 7, 0);
        CHECK.due("each its own: read", x.read(0, 0), 1);
        CHECK.due("each its own: none at both", x.used(0, 0, 0), -1);
        Tell.photo(x, 0, 1, 0, 64, 0);
        CHECK.due("no reading", x.used(0, 0, 0), -1);
        // a photo that came later can't be USED AS OF a day ahead
        ScrawlHouse y = house();
        int s = y.scrawl(0, 0, 3);
        y.next(1);
        Tell.photo(y, s, 1, 0, 4, 0, 16, 0);
        CHECK.due("day 0", y.used(s, 0, 0), -1);
        CHECK.due("day 1", y.used(s, 0, 1), 0);
        CHECK.due("day 0 again", y.reading(s, 0, 5), 0);
        CHECK.due("day 1 again", y.reading(s, 1, 5), 3);
    }

    private static void agree() {
        ScrawlHouse x = house();
        int p = abc(x, 0, 0, 0);
        int q = abc(x, 0, 0, 9);
        int r = abc(x, 0, 1, 1);
        int u = abc(x, 9, 9, 9);
        CHECK.due("two", x.agree(p, q, 0), 2);
        CHECK.due("two, the other way", x.agree(q, p, 0), 2);
        CHECK.due("quarrel in two", x.agree(p, r, 0), -3);
        CHECK.due("quarrel in one", x.agree(q, r, 0), -2);
        CHECK.due("nothing used", x.agree(p, u, 0), 0);
        CHECK.due("itself", x.agree(p, p, 0), 3);
        CHECK.due("none such", x.agree(p, 4, 0), 0);
        CHECK.due("none such, -1", x.agree(-1, p, 0), 0);
        CHECK.due("not known", x.agree(p, q, -1), 0);
    }

    private static void hands() {
        ScrawlHouse x = house();
        int none = abc(x, 9, 9, 9);
        int p = abc(x, 0, 0, 9);
        int q = abc(x, 9, 0, 0);
        int r = abc(x, 0, 0, 0);
        int u = abc(x, 1, 9, 0);
        int v = abc(x, 9, 0, 0);
        int w = abc(x, 1, 9, 0);
        int y = abc(x, 1, 1, 9);
        int z = abc(x, 1, 1, 0);
        CHECK.due("nothing used", x.hand(none, 0), -1);
        CHECK.due("p", x.hand(p, 0), 0);
        CHECK.due("q agrees with p in one", x.hand(q, 0), 1);
        CHECK.due("r, the least", x.hand(r, 0), 0);
        CHECK.due("u quarrels with 0, agrees with q in one", x.hand(u, 0), 2);
        CHECK.due("v agrees with one of 0", x.hand(v, 0), 0);
        CHECK.due("w like u", x.hand(w, 0), 2);
        CHECK.due("y agrees with u in one", x.hand(y, 0), 3);
        CHECK.due("z agrees with u in two", x.hand(z, 0), 2);
        CHECK.due("scrawl 9", x.hand(9, 0), -1);
        CHECK.due("scrawl -1", x.hand(-1, 0), -1);
        CHECK.due("day -1", x.hand(p, -1), -1);
        // apart: 61 years
        x.fact(1, p, 0, 0, 100);
        x.fact(1, r, 0, 160, 199);
        CHECK.due("60 years are not apart", x.hand(r, 0), 0);
        x.fact(1, r, 0, 161, 199);
        CHECK.due("61 years are apart", x.hand(r, 0), 1);
        CHECK.due("v is free: of q and r by 1", x.hand(v, 0), 1);
        // where nothing can be, none are apart
        x.fact(1, q, 0, 5, 5);
        x.fact(1, q, 0, 6, 6);
        CHECK.due("spoilt", x.spoilt(0), 4);
        CHECK.due("none are apart", x.hand(r, 0), 0);
    }

    private static void asOf() {
        ScrawlHouse x = house();
        int p = abc(x, 0, 0, 0);
        x.next(1);
        int q = abc(x, 0, 0, 0);
        x.next(1);
        Tell.photo(x, p, 2, 0, 8, 0, 32, 0);
        x.next(1);
        x.fact(1, p, 0, 0, 0);
        CHECK.due("day 0", x.hand(q, 0), -1);
        CHECK.due("day 1", x.hand(q, 1), 0);
        CHECK.due("day 2", x.hand(q, 2), 1);
        CHECK.due("day 1 again", x.hand(q, 1), 0);
        CHECK.due("agree, day 1", x.agree(p, q, 1), 3);
        CHECK.due("agree, day 2", x.agree(p, q, 2), -4);
        CHECK.due("agree, day 0", x.agree(p, q, 0), 0);
    }

    private static void apartEitherWay() {
        ScrawlHouse x = house();
        int p = abc(x, 0, 0, 0);
        int q = abc(x, 0, 0, 0);
        x.fact(1, p, 0, 80, 120);
        x.fact(1, q, 0, 0, 20);
        CHECK.due("60 years ahead", x.hand(q, 0), 0);
        x.fact(1, q, 0, 0, 19);
        CHECK.due("61 years ahead", x.hand(q, 0), 1);
    }

    private static void withOneOfThem() {
        ScrawlHouse x = new ScrawlHouse();
        for (int letter = 0; letter < 4; letter++) {
            x.form(letter, 1 << letter);
            x.form(letter, 16 << letter);
        }
        x.wall(0, 1);
        Tell.patterns(x, "name;");
        Tell.word(x, "ab", 0);
        Tell.word(x, "abcd", 0);
        Tell.word(x, "cd", 0);
        int ab = x.scrawl(0, 0, 2);
        int abcd = x.scrawl(0, 0, 4);
        int cd = x.scrawl(0, 0, 2);
        Tell.photo(x, ab, 1, 0, 2, 0);
        Tell.photo(x, abcd, 1, 0, 2, 0, 4, 0, 8, 0);
        Tell.photo(x, cd, 4, 0, 8, 0);
        CHECK.due("abcd", x.hand(abcd, 0), 0);
        CHECK.due("ab and cd share nothing", x.agree(ab, cd, 0), 0);
        CHECK.due("cd, with one of the two", x.hand(cd, 0), 0);
    }
}

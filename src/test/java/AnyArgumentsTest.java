import java.util.NoSuchElementException;

/**
 * Rules 6 and 7 of LANGUAGE.md over all promises: no call throws by itself, whatever its arguments, in an
 * empty house and in one that is full; octet alone throws, as told; and no question changes what is held.
 * (It asks more than 512 times: what is answered then is free, but that it is answered is not.)
 */
public final class AnyArgumentsTest {
    private static final Check CHECK = new Check();
    private static final int[] ODD = {Integer.MIN_VALUE, Integer.MIN_VALUE + 1, -1000, -2, -1, 0, 1, 7, 8, 12, 19, 20,
        25, 26, 79, 80, 199, 200, 240, 256, 999, 1000, 1 << 24, Integer.MAX_VALUE - 1, Integer.MAX_VALUE};

    public static void main(String[] args) {
        ask("an empty house", new ScrawlHouse());
        ask("a full house", full());
        tellWrong("an empty house", new ScrawlHouse());
        tellWrong("a full house", full());
        CHECK.finish();
    }

    /** All that fits in some 500 calls, with READINGS of many lengths. */
    private static ScrawlHouse full() {
        ScrawlHouse x = new ScrawlHouse();
        for (int i = 0; i < 20; i++) {
            Tell.word(x, "" + (char) ('a' + i % 4) + (i < 4 ? "" : "" + (char) ('a' + i / 4)), i % 5);
        }
        for (int i = 0; i < 12; i++) {
            x.form(i % 4, 1 + 20 * i);
            x.habit(i % 4, i % 5, 5);
            x.street(i, (i + 5) % 12, 1 + i);
        }
        for (int i = 0; i < 8; i++) {
            x.wall(i, 1 + i % 4);
        }
        Tell.patterns(x, "name? trade? office? thing? other? name; name trade; name office; name thing; other;");
        for (int s = 0; s < 20; s++) {
            x.scrawl(s % 8, 0, 1 + s);
            Tell.tape(x, Tell.times("\u0000\u00ff", 1 + s));
            x.photo(s);
            Tell.drawing(x, s, s % 4, Tell.times(".", 1 + s));
        }
        for (int i = 0; i < 80; i++) {
            x.fact(1, i % 20, 0, 0, 199 - i);
        }
        x.next(999);
        return x;
    }

    private static int[] counts(ScrawlHouse x) {
        int[] held = new int[10];
        for (int what = 0; what < 10; what++) {
            held[what] = x.count(what);
        }
        return held;
    }

    private static void same(String where, ScrawlHouse x, int[] ahead) {
        for (int what = 0; what < 10; what++) {
            CHECK.due(where + ", count(" + what + ")", x.count(what), ahead[what]);
        }
    }

    private static void ask(String where, ScrawlHouse x) {
        int[] ahead = counts(x);
        for (int a : ODD) {
            x.count(a);
            x.spoilt(a);
            x.fault();
            octet(where, x, a);
            for (int b : ODD) {
                x.read(a, b);
                x.hand(a, b);
                x.persons(a, b);
                x.person(a, b);
                x.span(a, b, true);
                for (int c : ODD) {
                    x.reading(a, b, c);
                    x.used(a, b, c);
                    x.agree(a, b, c);
                    x.laid(a, b, c, false);
                    x.walk(a, b, c);
                    x.cost(a, b, c, 999);
                    x.cost(a, 0, b, c);
                }
            }
        }
        same(where + " asked", x, ahead);
    }

    private static void octet(String where, ScrawlHouse x, int k) {
        boolean due = k < 0 || k >= x.count(10);
        boolean thrown = false;
        try {
            x.octet(k);
        } catch (NoSuchElementException e) {
            thrown = true;
        }
        CHECK.due(where + ", octet(" + k + ") throws", thrown, due);
    }

    /** Numbers that are as told for no call, so that all are refused. */
    private static void tellWrong(String where, ScrawlHouse x) {
        int[] ahead = counts(x);
        int[] wrong = {Integer.MIN_VALUE, -1000, -1, 1000, 1 << 24, Integer.MAX_VALUE};
        for (int a : wrong) {
            CHECK.due(where + ", next(" + a + ")", x.next(a), -1);
            CHECK.due(where + ", end(" + a + ")", x.end(a), false);
            CHECK.due(where + ", word(" + a + ")", x.word(a), -1);
            CHECK.due(where + ", photo(" + a + ")", x.photo(a), false);
            for (int b : wrong) {
                CHECK.due(where + ", form", x.form(a, b), -1);
                CHECK.due(where + ", wall", x.wall(a, b), -1);
                CHECK.due(where + ", drawing", x.drawing(a, b), false);
                for (int c : wrong) {
                    CHECK.due(where + ", street", x.street(a, b, c), false);
                    CHECK.due(where + ", habit", x.habit(a, b, c), -1);
                    CHECK.due(where + ", scrawl", x.scrawl(a, b, c), -1);
                    CHECK.due(where + ", fact", x.fact(a, b, c, a, b), -2);
                    for (int kind = 0; kind < 5; kind++) {
                        CHECK.due(where + ", fact " + kind, x.fact(kind, a, b, c, a), -2);
                    }
                }
            }
        }
        same(where + " told", x, ahead);
    }
}

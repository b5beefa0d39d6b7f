/** Promises 10 and 11: PATTERNS and their FAULTS. */
public final class PatternsTest {
    private static final Check CHECK = new Check();

    public static void main(String[] args) {
        right();
        cantCome();
        tooMany();
        allLeftOut();
        long200();
        stay();
        CHECK.finish();
    }

    private static void right() {
        ok("", 0);
        ok(" \n ", 0);
        ok("name;", 1);
        ok("name?trade;", 1);
        ok("name?trade?office?thing?other?name;", 1);
        ok(" name\n?\ntrade ;\n\nother;", 2);
        ok(Tell.times("other;", 8), 8);
        ok("name name name name name name;", 1);
    }

    private static void cantCome() {
        bad("name", 1, 4);
        bad("name  \n", 1, 7);
        bad("name?", 1, 5);
        bad(";", 1, 0);
        bad("name;;", 1, 5);
        bad("?name;", 1, 0);
        bad("name;?", 1, 5);
        bad("name??;", 1, 5);
        bad("names;", 1, 0);
        bad("nam;", 1, 0);
        bad("nametrade;", 1, 0);
        bad("name Trade;", 1, 5);
        bad("nameT;", 1, 4);
        bad("name\ttrade;", 1, 4);
        bad("name\r;", 1, 4);
        bad("\u0000", 1, 0);
        bad("name\u00ff;", 1, 4);
        bad("name.;", 1, 4);
    }

    private static void tooMany() {
        bad("name name name name name name name;", 2, 30);
        bad("name? name? name? name? name? name? name?;", 2, 36);
        bad(Tell.times("other;", 8) + " other;", 2, 49);
        bad(Tell.times("other;", 8) + " ;", 1, 49);
        bad(Tell.times("other;", 8) + "?", 1, 48);
        // a TOKEN has its least FAULT: a WORD that can't come is no seventh ITEM
        bad("name name name name name name nane;", 1, 30);
        bad(Tell.times("other;", 8) + "others;", 1, 48);
        bad("name name name name name name ?name;", 2, 31);
    }

    private static void allLeftOut() {
        bad("name?;", 3, 5);
        bad("name? trade? ;", 3, 13);
        bad("name;name?;names;", 3, 10);
        bad(Tell.times("other;", 7) + "other?;other;", 3, 48);
    }

    private static void long200() {
        ok("name;" + Tell.times(" ", 195), 1);
        bad("name;" + Tell.times(" ", 196), 1, 200);
        bad("name" + Tell.times(" ", 196), 1, 200);
        bad("name" + Tell.times(" ", 195), 1, 199);
        // a FAULT ahead comes first
        bad("name" + Tell.times(" ", 190) + "x;" + Tell.times(" ", 40), 1, 194);
        // a TOKEN that begins ahead of 200 is read whole
        bad("name;" + Tell.times(" ", 194) + "name;", 1, 200);
        bad("name;" + Tell.times(" ", 194) + "namex;", 1, 199);
        bad("name;" + Tell.times(" ", 195) + "namex;", 1, 200);
        bad("name name name name name name" + Tell.times(" ", 170) + "name;", 2, 199);
        bad("name name name name name name" + Tell.times(" ", 171) + "name;", 1, 200);
        bad("name?" + Tell.times(" ", 194) + ";;", 3, 199);
        bad("name?" + Tell.times(" ", 195) + ";;", 1, 200);
    }

    private static void stay() {
        ScrawlHouse x = new ScrawlHouse();
        CHECK.due("patterns", Tell.patterns(x, "name;trade;"), 2);
        CHECK.due("fault", x.fault(), 0);
        CHECK.due("bad patterns", Tell.patterns(x, "thing;thing;thing;name?;"), -24);
        CHECK.due("fault", x.fault(), 3);
        CHECK.due("tape is empty", x.count(9), 0);
        CHECK.due("count(4) stays", x.count(4), 2);
        Tell.word(x, "ab", 1);
        Tell.word(x, "ab", 3);
        x.wall(0, 1);
        x.scrawl(0, 0, 2);
        CHECK.due("read by the old ones", x.read(0, 0), 1);
        CHECK.due("octet(0)", x.octet(0), 0);
        CHECK.due("new patterns", Tell.patterns(x, "thing;"), 1);
        CHECK.due("fault is gone", x.fault(), 0);
        CHECK.due("read by the new ones", x.read(0, 0), 1);
        CHECK.due("octet(0)", x.octet(0), 1);
        CHECK.due("no patterns", Tell.patterns(x, ""), 0);
        CHECK.due("read by none", x.read(0, 0), 0);
        CHECK.due("OUT stays", x.octet(0), 1);
    }

    private static void ok(String text, int count) {
        ScrawlHouse x = new ScrawlHouse();
        CHECK.due("patterns '" + text + "'", Tell.patterns(x, text), count);
        CHECK.due("fault of '" + text + "'", x.fault(), 0);
        CHECK.due("count(4) of '" + text + "'", x.count(4), count);
    }

    private static void bad(String text, int kind, int place) {
        ScrawlHouse x = new ScrawlHouse();
        CHECK.due("patterns '" + text + "'", Tell.patterns(x, text), -1 - place);
        CHECK.due("fault of '" + text + "'", x.fault(), kind);
        CHECK.due("count(4) of '" + text + "'", x.count(4), 0);
    }
}

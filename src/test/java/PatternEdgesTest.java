/** The edges that the document names of PATTERNS and their FAULTS: promises 10 and 11. */
public final class PatternEdgesTest {
    private static final Check CHECK = new Check();
    private static final String EIGHT = Tell.times("other;", 8);
    private static final String SIX = "name name name name name name";

    public static void main(String[] args) {
        howMany();
        items();
        blanks();
        everySignAlone();
        everySignBehindAWord();
        cantCome();
        theEnd();
        tooMany();
        leastOfOneToken();
        allLeftOut();
        firstAlong();
        longTexts();
        readWhole();
        theyStay();
        faultKinds();
        tapeIsEmpty();
        CHECK.finishEdges(10, 11);
    }

    private static void ok(String text, int count) {
        ScrawlHouse x = new ScrawlHouse();
        CHECK.due("patterns '" + text + "'", Tell.patterns(x, text), count);
        CHECK.due("fault of '" + text + "'", x.fault(), 0);
        CHECK.due("count(4) of '" + text + "'", x.count(4), count);
    }

    private static void bad(String text, int kind, int place) {
        ScrawlHouse x = new ScrawlHouse();
        CHECK.due("patterns '" + text + "'", Tell.patterns(x, text), -1 - place);
        CHECK.due("fault of '" + text + "'", x.fault(), kind);
        CHECK.due("count(4) of '" + text + "'", x.count(4), 0);
    }

    private static String blanks(int n) {
        return Tell.times(" ", n);
    }

    private static void howMany() {
        CHECK.promise(10, "{ ITEM { ITEM } ; }: a text may have none");
        ok("", 0);
        ok(" ", 0);
        ok("\n \n", 0);
        CHECK.promise(10, "8 PATTERNS at most");
        ok("name;", 1);
        ok(Tell.times("other;", 7), 7);
        ok(EIGHT, 8);
        CHECK.promise(10, "of 1 to 6 ITEMS");
        ok(SIX + ";", 1);
        ok("name?name?name?name?name?name;", 1);
        ok("thing;" + SIX + ";thing;", 3);
    }

    private static void items() {
        CHECK.promise(10, "ITEM: one of name, trade, office, thing, other");
        String[] words = {"name", "trade", "office", "thing", "other"};
        for (int sort = 0; sort < 5; sort++) {
            ok(words[sort] + ";", 1);
            ScrawlHouse x = new ScrawlHouse();
            for (int s = 0; s < 5; s++) {
                Tell.word(x, "a", s);
            }
            Tell.patterns(x, words[sort] + ";");
            x.wall(0, 1);
            x.scrawl(0, 0, 1);
            CHECK.due("read by " + words[sort], x.read(0, 0), 1);
            CHECK.due("of SORT " + sort, x.octet(0), sort);
            CHECK.due("alone", x.reading(0, 0, 1), 1);
            bad(words[sort].substring(1) + ";", 1, 0);
            bad(words[sort] + "s;", 1, 0);
            bad(words[sort].substring(0, 3) + ";", 1, 0);
            for (int i = 0; i < words[sort].length(); i++) {
                bad(words[sort].substring(0, i) + "z" + words[sort].substring(i + 1) + ";", 1, 0);
            }
        }
        CHECK.promise(10, "with ? behind it or not; at least one without ?");
        ok("name? trade;", 1);
        ok("name trade?;", 1);
        ok("name?trade?office?thing?other?name;", 1);
        ok("name trade?office?thing?other?name?;", 1);
    }

    private static void blanks() {
        CHECK.promise(10, "TOKENS, with blanks (32, 10) between them or not");
        ok("name?trade;other;", 2);
        ok(" \nname \n ?\n\ntrade\n;  other ; ", 2);
        ok("name\ntrade;", 1);
        bad("nametrade;", 1, 0);
        bad("na me;", 1, 0);
        bad("name tra\nde;", 1, 5);
    }

    /** Blanks are no FAULT; no other sign can be alone, and most are no TOKEN at all. */
    private static void everySignAlone() {
        CHECK.promise(10, "FAULT 1: no TOKEN, or one that can't come (at it)");
        for (int sign = 0; sign < 256; sign++) {
            String text = "" + (char) sign;
            if (sign == 32 || sign == 10) {
                ok(text, 0);
            } else {
                bad(text, 1, 0);
                bad(EIGHT + " " + text, 1, 49);
            }
        }
    }

    private static void everySignBehindAWord() {
        CHECK.promise(10, "small letters in a row are one TOKEN, and end at any other sign");
        for (int sign = 0; sign < 256; sign++) {
            String text = "name" + (char) sign + ";";
            if (sign == 32 || sign == 10) {
                ok(text, 1);
            } else if (sign == '?') {
                bad(text, 3, 5);
            } else if (sign == ';') {
                bad(text, 1, 5);
            } else {
                bad(text, 1, sign >= 'a' && sign <= 'z' ? 0 : 4);
            }
        }
    }

    private static void cantCome() {
        CHECK.promise(10, "FAULT 1: a ? or ; that can't come");
        bad(";", 1, 0);
        bad("?", 1, 0);
        bad("name;;", 1, 5);
        bad("name; ;", 1, 6);
        bad("name;?", 1, 5);
        bad("name??;", 1, 5);
        bad("name? ?;", 1, 6);
        bad("name trade???;", 1, 11);
        bad("?name;", 1, 0);
        CHECK.promise(10, "FAULT 1: a WORD that can't come");
        bad("nam;", 1, 0);
        bad("names;", 1, 0);
        bad("x;", 1, 0);
        bad("name x;", 1, 5);
        bad("name;x;", 1, 5);
        bad("Name;", 1, 0);
        bad("nAme;", 1, 0);
        bad("namE;", 1, 0);
        bad("name Trade;", 1, 5);
    }

    private static void theEnd() {
        CHECK.promise(10, "the end: how many bytes there are");
        bad("name", 1, 4);
        bad("name?", 1, 5);
        bad("name ", 1, 5);
        bad("name \n\n", 1, 7);
        bad("name;name", 1, 9);
        bad("name;name?", 1, 10);
        bad("name trade? office", 1, 18);
        bad(Tell.times("other;", 7) + "other", 1, 47);
    }

    private static void tooMany() {
        CHECK.promise(10, "FAULT 2: a seventh ITEM (at its WORD)");
        bad(SIX + " name;", 2, 30);
        bad(SIX + "\n\n  trade?;", 2, 33);
        bad("name? name? name? name? name? name? name?;", 2, 36);
        bad("thing;" + SIX + " name;", 2, 36);
        bad(SIX + " name", 2, 30);
        CHECK.promise(10, "FAULT 2: a ninth PATTERN (at its WORD)");
        bad(EIGHT + "other;", 2, 48);
        bad(EIGHT + " \n name?;", 2, 51);
        bad(EIGHT + "name", 2, 48);
    }

    private static void leastOfOneToken() {
        CHECK.promise(10, "FAULTS of one TOKEN: the least");
        bad(SIX + " nane;", 1, 30);
        bad(EIGHT + "others;", 1, 48);
        bad(EIGHT + ";", 1, 48);
        bad(EIGHT + "?", 1, 48);
    }

    private static void allLeftOut() {
        CHECK.promise(10, "FAULT 3: a PATTERN whose ITEMS may all be left out (at its ; )");
        bad("name?;", 3, 5);
        bad("name? \n;", 3, 7);
        bad("name?name?name?name?name?name?;", 3, 30);
        bad("name;trade?;", 3, 11);
        bad(Tell.times("other;", 7) + "other?;", 3, 48);
        ok("name?name?name?name?name?name;", 1);
    }

    private static void firstAlong() {
        CHECK.promise(10, "FAULTS, the first along the text");
        bad("name?;x;;", 3, 5);
        bad("x name?;", 1, 0);
        bad(SIX + " name x ;;", 2, 30);
        bad("name?;" + EIGHT + "other;", 3, 5);
        bad("name?name?name?name?name?name?name?;", 2, 30);
        bad("name?!;", 1, 5);
    }

    private static void longTexts() {
        CHECK.promise(10, "a text of at most 200 bytes");
        ok("name;" + blanks(194), 1);
        ok("name;" + blanks(195), 1);
        ok(blanks(195) + "name;", 1);
        ok(blanks(200), 0);
        bad(blanks(199) + ";", 1, 199);
        bad(blanks(199) + "!", 1, 199);
        bad(blanks(199) + "n", 1, 199);
        CHECK.promise(10, "200, if there are more");
        bad("name;" + blanks(196), 1, 200);
        bad(blanks(201), 1, 200);
        bad(blanks(240), 1, 200);
        bad(blanks(196) + "name;", 1, 200);
        bad("name;" + blanks(195) + "!", 1, 200);
        bad("name;" + blanks(235), 1, 200);
        CHECK.promise(10, "the end of 200 bytes is 200, of fewer how many there are");
        bad("name" + blanks(195), 1, 199);
        bad("name" + blanks(196), 1, 200);
        bad("name" + blanks(197), 1, 200);
        CHECK.promise(10, "200, if no FAULT is ahead");
        bad("name;" + blanks(194) + "!!", 1, 199);
        bad("name;" + blanks(194) + ";;", 1, 199);
        bad("name;" + blanks(195) + ";;", 1, 200);
        bad("name?" + blanks(194) + ";;", 3, 199);
        bad("name?" + blanks(195) + ";;", 1, 200);
        bad("name" + blanks(195) + ";" + blanks(40), 1, 200);
        bad("x" + blanks(239), 1, 0);
    }

    private static void readWhole() {
        CHECK.promise(10, "TOKENS that begin ahead of it are read whole");
        bad("name;" + blanks(194) + "name;", 1, 200);
        bad("name;" + blanks(194) + "namex;", 1, 199);
        bad("name;" + blanks(194) + "n", 1, 199);
        bad("name;" + blanks(195) + "namex;", 1, 200);
        bad("name;" + blanks(191) + "name;", 1, 200);
        bad("name;" + blanks(191) + "names", 1, 196);
        bad(SIX + blanks(170) + "name;", 2, 199);
        bad(SIX + blanks(171) + "name;", 1, 200);
        bad(SIX + blanks(170) + "namex", 1, 199);
        bad(EIGHT + blanks(151) + "other", 2, 199);
        bad(EIGHT + blanks(152) + "other", 1, 200);
        bad("name;" + blanks(190) + "trade" + Tell.times("x", 40), 1, 195);
    }

    private static void theyStay() {
        CHECK.promise(10, "-1 less the place of a FAULT: they stay");
        ScrawlHouse x = new ScrawlHouse();
        Tell.word(x, "ab", 1);
        Tell.word(x, "ab", 3);
        x.wall(0, 1);
        x.scrawl(0, 0, 2);
        Tell.patterns(x, "name;trade;");
        String[] faults = {"thing", "thing;;", "thing thing thing thing thing thing thing;", "thing;thing?;",
            "thing;" + blanks(196)};
        for (String text : faults) {
            CHECK.due("a fault: '" + text + "'", Tell.patterns(x, text) < 0, true);
            CHECK.due("count(4) stays", x.count(4), 2);
            CHECK.due("read by those ahead", x.read(0, 0), 1);
            CHECK.due("octet(0)", x.octet(0), 0);
        }
        CHECK.promise(10, "the tape are the PATTERNS: those ahead are gone");
        CHECK.due("new ones", Tell.patterns(x, "thing;"), 1);
        CHECK.due("read by the new ones", x.read(0, 0), 1);
        CHECK.due("octet(0)", x.octet(0), 1);
        CHECK.due("none", Tell.patterns(x, ""), 0);
        CHECK.due("read by none", x.read(0, 0), 0);
        CHECK.due("count(4)", x.count(4), 0);
    }

    private static void faultKinds() {
        CHECK.promise(11, "0 ahead of any");
        ScrawlHouse x = new ScrawlHouse();
        CHECK.due("fault", x.fault(), 0);
        CHECK.promise(11, "the kind of the FAULT of the latest patterns()");
        Tell.patterns(x, "x");
        CHECK.due("1", x.fault(), 1);
        Tell.patterns(x, SIX + " name;");
        CHECK.due("2", x.fault(), 2);
        Tell.patterns(x, "name?;");
        CHECK.due("3", x.fault(), 3);
        CHECK.promise(11, "other calls leave it");
        Tell.word(x, "A", 0);
        x.next(1);
        CHECK.due("still 3", x.fault(), 3);
        CHECK.promise(11, "0 without one");
        Tell.patterns(x, "name;");
        CHECK.due("0", x.fault(), 0);
        Tell.patterns(x, "name");
        CHECK.due("1 again", x.fault(), 1);
        Tell.patterns(x, "");
        CHECK.due("0 of an empty text", x.fault(), 0);
    }

    private static void tapeIsEmpty() {
        CHECK.promise(10, "the tape (empty then)");
        ScrawlHouse x = new ScrawlHouse();
        String[] texts = {"name;", "name", "name?;", SIX + " name;", blanks(240), ""};
        for (String text : texts) {
            Tell.patterns(x, text);
            CHECK.due("behind '" + text + "'", x.count(9), 0);
        }
    }
}

/** The edges that the document names of FORMS USED, AGREE, QUARREL and HANDS: promises 19 to 21. */
public final class HandEdgesTest {
    private static final Check CHECK = new Check();
    private static final int MIN = Integer.MIN_VALUE;
    private static final int MAX = Integer.MAX_VALUE;
    /** In place of a FORM's number: both FORMS are worn, so that none is USED. */
    private static final int WORN = 9;

    public static void main(String[] args) {
        usedOfNoneSuch();
        usedJustOne();
        usedNeeds();
        agreeOfNoneSuch();
        agreeAndQuarrel();
        agreeInAll();
        handOfNone();
        agreeInTwo();
        leastHand();
        quarrelBars();
        apartBars();
        apartOnlyIfItCanBe();
        asManyHandsAsScrawls();
        handsAsOf();
        CHECK.finishEdges(19, 20, 21);
    }

    /** The name abcd, each letter with two FORMS that share no STROKE. */
    private static ScrawlHouse house() {
        ScrawlHouse x = new ScrawlHouse();
        for (int letter = 0; letter < 4; letter++) {
            x.form(letter, 1 << 2 * letter);
            x.form(letter, 2 << 2 * letter);
        }
        x.wall(0, 1);
        Tell.patterns(x, "name;");
        Tell.word(x, "abcd", 0);
        return x;
    }

    /** A SCRAWL abcd with a PHOTO in which each letter has the FORM told. */
    private static int abcd(ScrawlHouse x, int... forms) {
        int s = x.scrawl(0, 0, 4);
        photo(x, s, forms);
        return s;
    }

    private static void photo(ScrawlHouse x, int s, int... forms) {
        int[] marks = new int[8];
        for (int i = 0; i < 4; i++) {
            marks[2 * i] = forms[i] == WORN ? 0 : 1 << 2 * i + forms[i];
            marks[2 * i + 1] = forms[i] == WORN ? 3 << 2 * i : 0;
        }
        Tell.photo(x, s, marks);
    }

    private static void usedOfNoneSuch() {
        ScrawlHouse x = house();
        x.next(2);
        int s = abcd(x, 0, 1, 0, 1);
        CHECK.promise(19, "the FORM (its number)");
        for (int letter = 0; letter < 4; letter++) {
            CHECK.due("letter " + letter, x.used(s, letter, 2), letter % 2);
        }
        CHECK.promise(19, "NONE: no such SCRAWL");
        int[] noScrawls = {-1, 1, 20, MIN, MAX};
        for (int one : noScrawls) {
            CHECK.due("scrawl " + one, x.used(one, 0, 2), -1);
        }
        CHECK.promise(19, "NONE: no such letter");
        int[] noLetters = {-1, 26, 97, MIN, MAX};
        for (int letter : noLetters) {
            CHECK.due("letter " + letter, x.used(s, letter, 2), -1);
        }
        CHECK.promise(19, "NONE: not KNOWN then");
        CHECK.due("day 1", x.used(s, 0, 1), -1);
        CHECK.due("day -1", x.used(s, 0, -1), -1);
        CHECK.due("day MIN", x.used(s, 0, MIN), -1);
        CHECK.due("day MAX", x.used(s, 0, MAX), 0);
    }

    private static void usedJustOne() {
        ScrawlHouse x = new ScrawlHouse();
        x.form(0, 1);
        x.form(0, 3);
        x.form(0, 7);
        x.wall(0, 1);
        Tell.patterns(x, "name;");
        Tell.word(x, "aa", 0);
        int s = x.scrawl(0, 0, 2);
        CHECK.promise(19, "if of all FORMS just one MAY be at all PLACES where the letter is");
        Tell.photo(x, s, 1, 0, 1, 6);
        CHECK.due("the first alone may be at both", x.used(s, 0, 0), 0);
        Tell.photo(x, s, 1, 2, 3, 4);
        CHECK.due("the second alone may be at both", x.used(s, 0, 0), 1);
        Tell.photo(x, s, 7, 0, 4, 251);
        CHECK.due("the third alone may be at both", x.used(s, 0, 0), 2);
        CHECK.due("one letter", x.reading(s, 0, 5), 1);
        CHECK.promise(19, "a letter of one FORM USED it, though all of it is GONE");
        ScrawlHouse y = new ScrawlHouse();
        y.wall(0, 1);
        Tell.patterns(y, "name;");
        Tell.word(y, "a", 0);
        Tell.word(y, "z", 0);
        y.form(0, 6);
        int worn = y.scrawl(0, 0, 1);
        Tell.photo(y, worn, 0, 255);
        CHECK.due("a, all gone", y.used(worn, 0, 0), 0);
        CHECK.promise(19, "the third FORM of the last letter");
        int[] formsOfZ = {1, 2, 4};
        int[] formsOfA = {8, 16};
        for (int strokes : formsOfZ) {
            y.form(25, strokes);
        }
        for (int strokes : formsOfA) {
            y.form(0, strokes);
        }
        int last = y.scrawl(0, 0, 1);
        Tell.photo(y, last, 4, 8);
        CHECK.due("z", y.used(last, 25, 0), 2);
        CHECK.promise(19, "FORMS of the next letter are none of this one");
        y.form(1, 24);
        Tell.photo(y, worn, 16, 8);
        CHECK.due("a, not b", y.used(worn, 0, 0), 2);
        CHECK.promise(19, "NONE: more than one may");
        Tell.photo(x, s, 1, 2, 1, 6);
        CHECK.due("two may", x.used(s, 0, 0), -1);
        Tell.photo(x, s, 0, 255, 0, 255);
        CHECK.due("three may", x.used(s, 0, 0), -1);
        CHECK.due("no letter", x.reading(s, 0, 5), 0);
        CHECK.promise(19, "NONE: none may at all PLACES, though each PLACE has one");
        Tell.photo(x, s, 1, 0, 7, 0);
        CHECK.due("the reading is there", x.read(s, 0), 1);
        CHECK.due("none", x.used(s, 0, 0), -1);
    }

    private static void usedNeeds() {
        ScrawlHouse x = new ScrawlHouse();
        x.wall(0, 1);
        Tell.patterns(x, "name;");
        Tell.word(x, "a", 0);
        x.form(0, 1);
        x.form(1, 1);
        int s = x.scrawl(0, 0, 1);
        CHECK.promise(19, "USED by a SCRAWL that has a PHOTO");
        CHECK.due("read without one", x.read(s, 0), 1);
        CHECK.due("none used", x.used(s, 0, 0), -1);
        Tell.drawing(x, s, 0, "a");
        CHECK.due("a drawing is no photo", x.used(s, 0, 0), -1);
        Tell.photo(x, s, 1, 0);
        CHECK.due("a letter of one FORM", x.used(s, 0, 0), 0);
        CHECK.promise(19, "of a letter that is there by BEST");
        Tell.drawing(x, s, 0, ".");
        CHECK.due("b may be there too", x.cost(s, 0, 1, 0), 0);
        CHECK.due("b is not there", x.used(s, 1, 0), -1);
        CHECK.promise(19, "USED by a SCRAWL that has a BEST READING");
        Tell.drawing(x, s, 0, "b");
        CHECK.due("no reading", x.read(s, 0), 0);
        CHECK.due("none used", x.used(s, 0, 0), -1);
        CHECK.due("nor b", x.used(s, 1, 0), -1);
        CHECK.promise(19, "FORMS count as they are now");
        Tell.drawing(x, s, 0, ".");
        Tell.photo(x, s, 1, 2);
        CHECK.due("one may", x.used(s, 0, 0), 0);
        x.form(0, 3);
        CHECK.due("two may", x.used(s, 0, 0), -1);
    }

    private static void agreeOfNoneSuch() {
        ScrawlHouse x = house();
        int p = abcd(x, 0, 0, 0, 0);
        x.next(3);
        int q = abcd(x, 0, 0, 0, 0);
        CHECK.promise(20, "0 also without such ones");
        int[] noScrawls = {-1, 2, 20, MIN, MAX};
        for (int one : noScrawls) {
            CHECK.due("a " + one, x.agree(one, p, 3), 0);
            CHECK.due("b " + one, x.agree(p, one, 3), 0);
            CHECK.due("both " + one, x.agree(one, one, 3), 0);
        }
        CHECK.promise(20, "0, if one is not KNOWN then");
        CHECK.due("day 2, b", x.agree(p, q, 2), 0);
        CHECK.due("day 2, a", x.agree(q, p, 2), 0);
        CHECK.due("day -1", x.agree(p, q, -1), 0);
        CHECK.due("day 3", x.agree(p, q, 3), 4);
        CHECK.promise(20, "0, if one USED none");
        int worn = abcd(x, WORN, WORN, WORN, WORN);
        int bare = x.scrawl(0, 0, 4);
        CHECK.due("all worn", x.agree(p, worn, 3), 0);
        CHECK.due("no photo", x.agree(bare, p, 3), 0);
        CHECK.due("neither", x.agree(bare, worn, 3), 0);
    }

    private static void agreeAndQuarrel() {
        ScrawlHouse x = house();
        int p = abcd(x, 0, 0, 0, 0);
        CHECK.promise(20, "in how many letters they AGREE");
        int[] wornForms = {0, 0, 0, 0};
        for (int many = 4; many >= 0; many--) {
            int q = abcd(x, wornForms);
            CHECK.due(many + " letters", x.agree(p, q, 0), many);
            CHECK.due(many + " letters, the other way", x.agree(q, p, 0), many);
            if (many > 0) {
                wornForms[many - 1] = WORN;
            }
        }
        CHECK.promise(20, "-1 less in how many they QUARREL, if in any");
        int[] otherForms = {0, 0, 0, 0};
        for (int many = 1; many <= 4; many++) {
            otherForms[many - 1] = 1;
            int q = abcd(x, otherForms);
            CHECK.due("quarrel in " + many, x.agree(p, q, 0), -1 - many);
            CHECK.due("quarrel in " + many + ", the other way", x.agree(q, p, 0), -1 - many);
        }
        CHECK.promise(20, "both USED the letter");
        int one = abcd(x, 1, WORN, WORN, WORN);
        int other = abcd(x, WORN, 0, 0, 0);
        CHECK.due("no letter in common", x.agree(one, other, 0), 0);
        CHECK.due("one quarrel, none agreed", x.agree(one, p, 0), -2);
        CHECK.promise(20, "with itself it AGREES in all that it USED");
        CHECK.due("itself", x.agree(p, p, 0), 4);
        CHECK.due("itself, three used", x.agree(other, other, 0), 3);
    }

    private static void agreeInAll() {
        CHECK.promise(20, "in as many letters as two SCRAWLS have PLACES: 24");
        ScrawlHouse x = new ScrawlHouse();
        x.wall(0, 1);
        Tell.patterns(x, "name name name;");
        StringBuilder letters = new StringBuilder();
        int[] marks = new int[48];
        for (int letter = 0; letter < 24; letter++) {
            x.form(letter, 1 + letter);
            x.form(letter, 101 + letter);
            letters.append((char) ('a' + letter));
            marks[2 * letter] = 1 + letter;
        }
        for (int i = 0; i < 3; i++) {
            Tell.word(x, letters.substring(8 * i, 8 * i + 8), 0);
        }
        for (int s = 0; s < 3; s++) {
            x.scrawl(0, 0, 24);
            Tell.drawing(x, s, 0, letters.toString());
        }
        Tell.photo(x, 0, marks);
        Tell.photo(x, 1, marks);
        for (int place = 0; place < 24; place++) {
            marks[2 * place] += 100;
        }
        Tell.photo(x, 2, marks);
        CHECK.due("used", x.reading(0, 0, 5), 24);
        CHECK.due("agree", x.agree(0, 1, 0), 24);
        CHECK.due("quarrel", x.agree(0, 2, 0), -25);
        CHECK.due("one hand", x.hand(1, 0), 0);
        CHECK.due("another", x.hand(2, 0), 1);
    }

    private static void handOfNone() {
        ScrawlHouse x = house();
        x.next(1);
        int s = abcd(x, 0, 0, 0, 0);
        CHECK.promise(21, "NONE: no such SCRAWL, or not KNOWN then");
        int[] noScrawls = {-1, 1, 20, MIN, MAX};
        for (int one : noScrawls) {
            CHECK.due("scrawl " + one, x.hand(one, 1), -1);
        }
        CHECK.due("day 0", x.hand(s, 0), -1);
        CHECK.due("day MIN", x.hand(s, MIN), -1);
        CHECK.due("day 1", x.hand(s, 1), 0);
        CHECK.due("day MAX", x.hand(s, MAX), 0);
        CHECK.promise(21, "NONE: it USED no letter, and takes no number");
        int worn = abcd(x, WORN, WORN, WORN, WORN);
        int bare = x.scrawl(0, 0, 4);
        int other = abcd(x, 1, 1, 1, 1);
        CHECK.due("worn", x.hand(worn, 1), -1);
        CHECK.due("without a photo", x.hand(bare, 1), -1);
        CHECK.due("the next one", x.hand(other, 1), 1);
    }

    private static void agreeInTwo() {
        CHECK.promise(21, "with one of which it AGREES in 2 letters at least; else a new one");
        ScrawlHouse x = house();
        int p = abcd(x, 0, 0, WORN, WORN);
        int one = abcd(x, 0, WORN, 0, WORN);
        int two = abcd(x, 0, 0, 0, WORN);
        CHECK.due("p", x.hand(p, 0), 0);
        CHECK.due("in 1", x.hand(one, 0), 1);
        CHECK.due("in 2", x.hand(two, 0), 0);
        CHECK.promise(21, "with one of them, not with two together");
        ScrawlHouse y = house();
        abcd(y, 0, 0, WORN, 0);
        abcd(y, 0, WORN, WORN, 0);
        int both = abcd(y, WORN, 0, 0, 0);
        CHECK.due("in 2 with the first alone", y.hand(both, 0), 0);
        ScrawlHouse z = house();
        abcd(z, 0, 0, 0, WORN);
        abcd(z, WORN, 0, 0, 0);
        int each = abcd(z, 0, WORN, WORN, 0);
        CHECK.due("the second is of hand 0", z.hand(1, 0), 0);
        CHECK.due("in 1 with each", z.hand(each, 0), 1);
    }

    private static void leastHand() {
        CHECK.promise(21, "by rising numbers, the least HAND so far");
        ScrawlHouse x = house();
        int p = abcd(x, 0, 0, WORN, WORN);
        int q = abcd(x, WORN, WORN, 0, 0);
        int both = abcd(x, 0, 0, 0, 0);
        CHECK.due("p", x.hand(p, 0), 0);
        CHECK.due("q shares nothing with p", x.hand(q, 0), 1);
        CHECK.due("both might be, the least is", x.hand(both, 0), 0);
        CHECK.promise(21, "each is of the least HAND at its turn, and stays there");
        int like = abcd(x, WORN, WORN, 0, 0);
        CHECK.due("like q, but now of 0", x.hand(like, 0), 0);
        CHECK.due("q stays", x.hand(q, 0), 1);
    }

    private static void quarrelBars() {
        CHECK.promise(21, "whose SCRAWLS it does not QUARREL with, none of them");
        ScrawlHouse x = house();
        abcd(x, 0, 0, 0, WORN);
        abcd(x, 0, 0, WORN, 1);
        int s = abcd(x, 0, 0, 0, 0);
        CHECK.due("the second is of hand 0", x.hand(1, 0), 0);
        CHECK.due("agrees with the first in 3, quarrels with the second", x.hand(s, 0), 1);
    }

    private static void apartBars() {
        CHECK.promise(21, "nor is APART from: more than 60 years");
        ScrawlHouse x = house();
        int p = abcd(x, 0, 0, 0, 0);
        int q = abcd(x, 0, 0, 0, 0);
        x.fact(1, p, 0, 30, 50);
        x.fact(1, q, 0, 110, 150);
        CHECK.due("60 years from 50 to 110", x.hand(q, 0), 0);
        x.fact(1, q, 0, 111, 150);
        CHECK.due("61 years from 50 to 111", x.hand(q, 0), 1);
        CHECK.promise(21, "APART whichever of the two is ahead");
        ScrawlHouse y = house();
        int late = abcd(y, 0, 0, 0, 0);
        int early = abcd(y, 0, 0, 0, 0);
        y.fact(1, late, 0, 110, 150);
        y.fact(1, early, 0, 30, 50);
        CHECK.due("60 years", y.hand(early, 0), 0);
        y.fact(1, early, 0, 30, 49);
        CHECK.due("61 years", y.hand(early, 0), 1);
        CHECK.promise(21, "APART from none of its SCRAWLS");
        ScrawlHouse z = house();
        for (int i = 0; i < 3; i++) {
            abcd(z, 0, 0, 0, 0);
        }
        z.fact(1, 0, 0, 0, 0);
        z.fact(1, 1, 0, 50, 50);
        z.fact(1, 2, 0, 100, 100);
        CHECK.due("50 years from 0", z.hand(1, 0), 0);
        CHECK.due("50 years from 1, but 100 from 0", z.hand(2, 0), 1);
    }

    private static void apartOnlyIfItCanBe() {
        CHECK.promise(21, "if it can't be, none are APART");
        ScrawlHouse x = house();
        int p = abcd(x, 0, 0, 0, 0);
        int q = abcd(x, 0, 0, 0, 0);
        x.fact(1, p, 0, 0, 0);
        x.fact(1, q, 0, 199, 199);
        CHECK.due("apart", x.hand(q, 0), 1);
        x.next(1);
        x.fact(1, q, 0, 0, 0);
        CHECK.due("it can't be", x.spoilt(1), 2);
        CHECK.due("not apart", x.hand(q, 1), 0);
        CHECK.due("on day 0 as it was", x.hand(q, 0), 1);
    }

    private static void asManyHandsAsScrawls() {
        CHECK.promise(21, "as many HANDS as SCRAWLS: 20");
        ScrawlHouse x = house();
        for (int s = 0; s < 20; s++) {
            abcd(x, 0, WORN, WORN, WORN);
        }
        for (int s = 0; s < 20; s++) {
            CHECK.due("hand of " + s, x.hand(s, 0), s);
        }
    }

    private static void handsAsOf() {
        CHECK.promise(21, "HANDS, AS OF t");
        ScrawlHouse x = house();
        int p = abcd(x, 0, 0, 0, 0);
        int q = abcd(x, 1, 1, 1, 1);
        x.next(1);
        photo(x, p, 1, 1, 1, 1);
        x.next(1);
        photo(x, p, WORN, WORN, WORN, WORN);
        CHECK.due("day 0, p", x.hand(p, 0), 0);
        CHECK.due("day 0, q", x.hand(q, 0), 1);
        CHECK.due("day 1, q", x.hand(q, 1), 0);
        CHECK.due("day 2, p", x.hand(p, 2), -1);
        CHECK.due("day 2, q", x.hand(q, 2), 0);
    }
}

import java.util.ArrayList;
import java.util.List;
import java.util.NoSuchElementException;

/** Makes every call on a house and on the oracle, and notes the first answer in which they differ. */
final class Twin {
    static final int THROWS = Integer.MIN_VALUE;
    private static final String[] NAMES = {"feed", "end", "next", "form", "word", "street", "wall", "habit",
        "patterns", "fault", "scrawl", "photo", "drawing", "cost", "read", "octet", "reading", "used", "agree",
        "hand", "fact", "span", "laid", "spoilt", "persons", "person", "walk", "count"};

    private final ScrawlHouse house = new ScrawlHouse();
    private final Oracle oracle = new Oracle();
    private final List<String> calls = new ArrayList<>();
    private boolean differs = false;

    int calls() {
        return calls.size();
    }

    boolean differs() {
        return differs;
    }

    List<String> story() {
        return calls;
    }

    int ask(String name, int... a) {
        int which = List.of(NAMES).indexOf(name);
        int got = ofHouse(which, a);
        int want = ofOracle(which, a);
        StringBuilder text = new StringBuilder(name).append(java.util.Arrays.toString(a)).append(" -> ").append(got);
        if (got != want) {
            text.append(", due is ").append(want);
            differs = true;
        }
        calls.add(text.toString());
        return got;
    }

    void tape(String bytes) {
        for (int i = 0; i < bytes.length(); i += 20) {
            ask("feed", Tell.number(bytes, i), Tell.number(bytes, i + 4), Tell.number(bytes, i + 8),
                    Tell.number(bytes, i + 12), Tell.number(bytes, i + 16));
        }
        ask("end", bytes.length());
    }

    private static int bit(boolean value) {
        return value ? 1 : 0;
    }

    private int ofHouse(int which, int[] a) {
        switch (which) {
            case 0: return house.feed(a[0], a[1], a[2], a[3], a[4]);
            case 1: return bit(house.end(a[0]));
            case 2: return house.next(a[0]);
            case 3: return house.form(a[0], a[1]);
            case 4: return house.word(a[0]);
            case 5: return bit(house.street(a[0], a[1], a[2]));
            case 6: return house.wall(a[0], a[1]);
            case 7: return house.habit(a[0], a[1], a[2]);
            case 8: return house.patterns();
            case 9: return house.fault();
            case 10: return house.scrawl(a[0], a[1], a[2]);
            case 11: return bit(house.photo(a[0]));
            case 12: return bit(house.drawing(a[0], a[1]));
            case 13: return house.cost(a[0], a[1], a[2], a[3]);
            case 14: return house.read(a[0], a[1]);
            case 15:
                try {
                    return house.octet(a[0]);
                } catch (NoSuchElementException e) {
                    return THROWS;
                }
            case 16: return house.reading(a[0], a[1], a[2]);
            case 17: return house.used(a[0], a[1], a[2]);
            case 18: return house.agree(a[0], a[1], a[2]);
            case 19: return house.hand(a[0], a[1]);
            case 20: return house.fact(a[0], a[1], a[2], a[3], a[4]);
            case 21: return house.span(a[0], a[1], a[2] == 1);
            case 22: return house.laid(a[0], a[1], a[2], a[3] == 1);
            case 23: return house.spoilt(a[0]);
            case 24: return house.persons(a[0], a[1]);
            case 25: return house.person(a[0], a[1]);
            case 26: return house.walk(a[0], a[1], a[2]);
            case 27: return house.count(a[0]);
            default: throw new IllegalArgumentException("no such call");
        }
    }

    private int ofOracle(int which, int[] a) {
        switch (which) {
            case 0: return oracle.feed(a[0], a[1], a[2], a[3], a[4]);
            case 1: return bit(oracle.end(a[0]));
            case 2: return oracle.next(a[0]);
            case 3: return oracle.form(a[0], a[1]);
            case 4: return oracle.word(a[0]);
            case 5: return bit(oracle.street(a[0], a[1], a[2]));
            case 6: return oracle.wall(a[0], a[1]);
            case 7: return oracle.habit(a[0], a[1], a[2]);
            case 8: return oracle.patterns();
            case 9: return oracle.fault();
            case 10: return oracle.scrawl(a[0], a[1], a[2]);
            case 11: return bit(oracle.photo(a[0]));
            case 12: return bit(oracle.drawing(a[0], a[1]));
            case 13: return oracle.cost(a[0], a[1], a[2], a[3]);
            case 14: return oracle.read(a[0], a[1]);
            case 15:
                try {
                    return oracle.octet(a[0]);
                } catch (NoSuchElementException e) {
                    return THROWS;
                }
            case 16: return oracle.reading(a[0], a[1], a[2]);
            case 17: return oracle.used(a[0], a[1], a[2]);
            case 18: return oracle.agree(a[0], a[1], a[2]);
            case 19: return oracle.hand(a[0], a[1]);
            case 20: return oracle.fact(a[0], a[1], a[2], a[3], a[4]);
            case 21: return oracle.span(a[0], a[1], a[2] == 1);
            case 22: return oracle.laid(a[0], a[1], a[2], a[3] == 1);
            case 23: return oracle.spoilt(a[0]);
            case 24: return oracle.persons(a[0], a[1]);
            case 25: return oracle.person(a[0], a[1]);
            case 26: return oracle.walk(a[0], a[1], a[2]);
            case 27: return oracle.count(a[0]);
            default: throw new IllegalArgumentException("no such call");
        }
    }
}

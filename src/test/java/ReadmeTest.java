import java.io.IOException;
import java.nio.file.Files;
import java.nio.file.Path;
import java.util.ArrayList;
import java.util.List;

/** The example of README.md: its calls answer what the page tells, and the page has just these lines. */
public final class ReadmeTest {
    private static final Check CHECK = new Check();

    public static void main(String[] args) throws IOException {
        example();
        sameLines();
        CHECK.finish();
    }

    private static void tape(ScrawlHouse house, String text) {
        int size = house.count(9) + text.length();
        for (int i = 0; i < text.length(); i += 20) {
            int[] n = new int[5];
            for (int k = 0; k < 20 && i + k < text.length(); k++) {
                n[k / 4] |= text.charAt(i + k) << 24 - 8 * (k % 4);
            }
            house.feed(n[0], n[1], n[2], n[3], n[4]);
        }
        house.end(size);
    }

    private static void example() {
        ScrawlHouse house = new ScrawlHouse();
        due(house.form(0, 3), 0);
        due(house.form(1, 12), 0);
        tape(house, "ab");
        int name = house.word(0);
        due(name, 0);
        tape(house, "b");
        int office = house.word(2);
        due(office, 1);
        tape(house, "name office?;");
        due(house.patterns(), 1);
        due(house.wall(4, 2), 0);
        int s = house.scrawl(0, 0, 3);
        due(s, 0);
        tape(house, "\1\2\14\0\14\0");
        due(house.photo(s), true);
        due(house.cost(s, 0, 0, 0), 1);
        due(house.read(s, 0), 2);
        due(house.octet(0), 0);
        due(house.octet(1), 1);
        due(house.reading(s, 0, 0), 1);
        due(house.hand(s, 0), 0);
        due(house.persons(name, 0), 1);
        due(house.next(10), 10);
        due(house.fact(3, name, office, 79, 0), 0);
        due(house.span(s, 10, false), 79);
        due(house.span(s, 9, false), 0);
        due(house.laid(0, 1, 10, false), 79);
        due(house.fact(1, s, 0, 10, 20), 1);
        due(house.spoilt(10), 1);
        due(house.span(s, 10, false), -1);
    }

    private static void due(int got, int want) {
        CHECK.due("a call of README.md", got, want);
    }

    private static void due(boolean got, boolean want) {
        CHECK.due("a call of README.md", got, want);
    }

    /** Each line of the page's Java, in order, as it has to stand in this test. */
    private static void sameLines() throws IOException {
        String test = Files.readString(Path.of("src/test/java/ReadmeTest.java"));
        int behind = 0;
        for (String line : linesDue()) {
            int at = test.indexOf(line, behind);
            CHECK.due("README.md and ReadmeTest.java have: " + line, at >= 0, true);
            behind = Math.max(behind, at);
        }
    }

    private static List<String> linesDue() throws IOException {
        List<String> due = new ArrayList<>();
        boolean inside = false;
        for (String line : Files.readAllLines(Path.of("README.md"))) {
            if (line.startsWith("```")) {
                inside = line.equals("```java");
            } else if (inside) {
                addDue(line.split("//", 2), due);
            }
        }
        CHECK.due("README.md has an example", due.size() > 30, true);
        return due;
    }

    /** A line with an answer behind it is asked for that answer here, a variable behind the line that sets it. */
    private static void addDue(String[] parts, List<String> due) {
        String code = parts[0].strip();
        if (code.isEmpty() || parts.length < 2) {
            due.add(code);
            return;
        }
        String answer = parts[1].strip().split(":")[0];
        boolean sets = code.startsWith("int ");
        String asked = sets ? code.split(" ")[1] : code.substring(0, code.length() - 1);
        if (sets) {
            due.add(code);
        }
        due.add("due(" + asked + ", " + answer + ");");
    }
}

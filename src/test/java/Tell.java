/** Short ways to tell a house things that come by the tape. */
final class Tell {
    static final String PLAIN = "name trade?; thing name; name office; name thing;";

    private Tell() {
    }

    /** Puts the bytes (characters 0 to 255) on an empty tape. */
    static void tape(ScrawlHouse x, String bytes) {
        int have = x.count(9);
        for (int i = 0; i < bytes.length(); i += 20) {
            x.feed(number(bytes, i), number(bytes, i + 4), number(bytes, i + 8), number(bytes, i + 12),
                    number(bytes, i + 16));
        }
        x.end(have + bytes.length());
    }

    static int number(String bytes, int from) {
        int value = 0;
        for (int i = from; i < from + 4; i++) {
            value = value << 8 | (i < bytes.length() ? bytes.charAt(i) & 255 : 0);
        }
        return value;
    }

    static int word(ScrawlHouse x, String letters, int sort) {
        tape(x, letters);
        return x.word(sort);
    }

    static int patterns(ScrawlHouse x, String text) {
        tape(x, text);
        return x.patterns();
    }

    static boolean drawing(ScrawlHouse x, int s, int d, String letters) {
        tape(x, letters);
        return x.drawing(s, d);
    }

    /** SEEN and GONE of each PLACE in turn. */
    static boolean photo(ScrawlHouse x, int s, int... marks) {
        StringBuilder bytes = new StringBuilder();
        for (int mark : marks) {
            bytes.append((char) mark);
        }
        tape(x, bytes.toString());
        return x.photo(s);
    }

    static String times(String part, int n) {
        return part.repeat(n);
    }
}

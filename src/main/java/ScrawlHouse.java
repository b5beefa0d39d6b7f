import java.util.Arrays;
import java.util.NoSuchElementException;

/**
 * Reads what was scratched on the walls of an old town: strokes to letters, letters to words,
 * scrawls to hands, years and persons, as all of it was known on any day.
 *
 * <p>All rows are made once and used again by every call, so that a long run makes next to nothing.
 */
public final class ScrawlHouse {
    public static final int NONE = -1;

    private static final int NO_SUCH = -2;
    private static final int LAST_DAY = 999;

    private static final int TAPE_MOST = 240;
    private static final int FEED_BYTES = 20;
    private static final int BYTE = 255;
    private static final int SMALL_A = 97;
    private static final int SMALL_Z = 122;
    private static final int DOT = 46;

    private static final int LETTERS = 26;
    private static final int FORMS_MOST = 3;
    private static final int WORDS_MOST = 80;
    private static final int WORD_LONG = 10;
    private static final int SORTS = 5;
    private static final int NAME = 0;
    private static final int TRADE = 1;
    private static final int OFFICE = 2;
    private static final int THING = 3;
    private static final int FIRSTS = 3;

    private static final int DRAWERS = 4;
    private static final int HABITS_MOST = 12;
    private static final int HABIT_COST = 2;

    private static final int CORNERS = 12;
    private static final int STREETS_MOST = 30;
    private static final int STREET_LONG = 99;
    private static final int WALLS_MOST = 8;
    private static final int LAYERS_MOST = 4;
    /** Longer than any way through the town, and so small that three of them can be added. */
    private static final int NO_WAY = 1000000;

    private static final int TEXT_MOST = 200;
    private static final int PATTERNS_MOST = 8;
    private static final int ITEMS_MOST = 6;
    /** Where one may stand in a PATTERN: ahead of each ITEM, and behind the last. */
    private static final int STANDS = ITEMS_MOST + 1;
    /** A PATTERN of 6 ITEMS has at most 63 beginnings that are not empty: 8 * 63 + 1 states at most. */
    private static final int STATES_MOST = 512;
    private static final int CANT_COME = 1;
    private static final int TOO_MANY = 2;
    private static final int ALL_LEFT_OUT = 3;

    private static final int SCRAWLS_MOST = 20;
    private static final int PLACES_MOST = 24;
    private static final int PHOTOS_MOST = 60;
    private static final int DRAWINGS_MOST = 40;
    /** Where a READING may stand: ahead of each PLACE, and behind the last. */
    private static final int CUTS = PLACES_MOST + 1;
    /** Kinds of WORDS that may begin at a PLACE: by SORT and length. */
    private static final int FITS = SORTS * WORD_LONG;
    private static final int RIVALS_MOST = 1000;
    private static final int NOT_YET = -2;
    private static final int ALIKE_LETTERS = 2;

    private static final int YEARS = 200;
    private static final int YEAR_ROWS = 4;
    private static final int APART_YEARS = 60;
    private static final int FACTS_MOST = 80;
    private static final int LIMIT_LAYER = 0;
    private static final int LIMIT_SCRAWL = 1;
    private static final int ANSWER = 2;
    private static final int STOOD = 3;
    private static final int WAS_THERE = 4;
    /** Sets of years that a SCRAWL may be held to: one by an office, one by each WORD that is a thing. */
    private static final int SLOTS = ITEMS_MOST + 1;
    /** All that has a year: the SCRAWLS, then the LAYERS. */
    private static final int DATED = SCRAWLS_MOST + WALLS_MOST * LAYERS_MOST;
    /** Each sweep but the last moves a year by one at least. */
    private static final int SWEEPS_MOST = DATED * (YEARS + 1) + 1;

    private static final int PERSON_SCRAWLS = 10;

    private final Tape tape;
    private final Lore lore;
    private final Town town;
    private final PatternText text;
    private final Machine machine;
    private final Finds finds;
    private final Readings readings;
    private final Reader reader;
    private final Facts facts;
    private final Years years;
    private final Folk folk;
    private final int[] out;
    private int outSize;
    private int today;

    public ScrawlHouse() {
        tape = new Tape();
        lore = new Lore();
        town = new Town();
        text = new PatternText(tape);
        machine = new Machine();
        finds = new Finds();
        readings = new Readings();
        reader = new Reader(lore, machine, finds, readings);
        facts = new Facts();
        years = new Years(town, finds, facts, readings);
        folk = new Folk(finds, readings, years);
        out = new int[ITEMS_MOST];
        outSize = 0;
        today = 0;
    }

    public int feed(int a, int b, int c, int d, int e) {
        if (tape.size + FEED_BYTES > TAPE_MOST) {
            return NONE;
        }
        tape.addNumber(a);
        tape.addNumber(b);
        tape.addNumber(c);
        tape.addNumber(d);
        tape.addNumber(e);
        return tape.size;
    }

    public boolean end(int n) {
        if (n < 0 || n > tape.size) {
            return false;
        }
        tape.size = n;
        return true;
    }

    public int next(int n) {
        if (n < 0 || n > LAST_DAY || today + n > LAST_DAY) {
            return NONE;
        }
        today += n;
        return today;
    }

    public int form(int letter, int strokes) {
        int number = lore.addForm(letter, strokes);
        if (number != NONE) {
            readings.forget();
        }
        return number;
    }

    public int word(int sort) {
        int number = lore.addWord(tape, sort);
        tape.size = 0;
        if (number != NONE) {
            readings.forget();
        }
        return number;
    }

    public boolean street(int a, int b, int length) {
        return town.addStreet(a, b, length);
    }

    public int wall(int corner, int layers) {
        return town.addWall(corner, layers);
    }

    public int habit(int d, int letter, int drawn) {
        int many = lore.addHabit(d, letter, drawn);
        if (many != NONE) {
            readings.forget();
        }
        return many;
    }

    public int patterns() {
        boolean right = text.parse();
        tape.size = 0;
        if (!right) {
            return -1 - text.faultPlace;
        }
        machine.build(text);
        readings.forget();
        return machine.patternCount;
    }

    public int fault() {
        return text.faultKind;
    }

    public int scrawl(int wall, int layer, int places) {
        if (!town.isLayer(wall, layer)) {
            return NONE;
        }
        return finds.addScrawl(wall, layer, places, today);
    }

    public boolean photo(int s) {
        boolean taken = finds.addPhoto(s, tape, today);
        tape.size = 0;
        return taken;
    }

    public boolean drawing(int s, int d) {
        boolean taken = finds.addDrawing(s, d, tape, today);
        tape.size = 0;
        return taken;
    }

    public int cost(int s, int place, int letter, int t) {
        if (!finds.isKnown(s, t) || place < 0 || place >= finds.places[s] || !isLetter(letter)) {
            return NO_SUCH;
        }
        reader.gather(s, t);
        return reader.letterCost(place, letter);
    }

    public int read(int s, int t) {
        if (!finds.isKnown(s, t)) {
            return NONE;
        }
        reader.look(s, t);
        int size = readings.sizes[s];
        if (size == 0) {
            return 0;
        }
        for (int i = 0; i < size && i < ITEMS_MOST; i++) {
            out[i] = readings.words[s * ITEMS_MOST + i];
        }
        outSize = size;
        return size;
    }

    public int octet(int k) throws NoSuchElementException {
        if (k < 0 || k >= outSize) {
            throw new NoSuchElementException("OUT has no such byte");
        }
        return out[k];
    }

    public int reading(int s, int t, int what) {
        if (!finds.isKnown(s, t)) {
            return NONE;
        }
        reader.look(s, t);
        switch (what) {
            case 0:
                return readings.costs[s];
            case 1:
                return readings.rivals[s];
            case 2:
                return readings.firstOf(s, NAME);
            case 3:
                return readings.firstOf(s, TRADE);
            case 4:
                return readings.firstOf(s, OFFICE);
            case 5:
                return readings.usedCounts[s];
            default:
                return NONE;
        }
    }

    public int used(int s, int letter, int t) {
        if (!finds.isKnown(s, t) || !isLetter(letter)) {
            return NONE;
        }
        reader.look(s, t);
        return readings.forms[s * LETTERS + letter];
    }

    public int agree(int a, int b, int t) {
        if (!finds.isKnown(a, t) || !finds.isKnown(b, t)) {
            return 0;
        }
        reader.look(a, t);
        reader.look(b, t);
        return readings.compare(a, b);
    }

    public int hand(int s, int t) {
        if (!finds.isKnown(s, t)) {
            return NONE;
        }
        reader.lookAll(t);
        years.settle(t);
        folk.giveHands(t);
        return folk.handOf[s];
    }

    public int fact(int kind, int a, int b, int from, int to) {
        if (!isAbout(kind, a, b)) {
            return -2;
        }
        if (!areYears(kind, from, to)) {
            return -3;
        }
        if (facts.count >= FACTS_MOST) {
            return -4;
        }
        return facts.add(kind, a, b, from, to, today);
    }

    public int span(int s, int t, boolean most) {
        if (!finds.isKnown(s, t)) {
            return NONE;
        }
        reader.lookAll(t);
        years.settle(t);
        return years.endOf(s, most);
    }

    public int laid(int wall, int layer, int t, boolean most) {
        if (!town.isLayer(wall, layer)) {
            return NONE;
        }
        reader.lookAll(t);
        years.settle(t);
        return years.endOf(years.datedLayer(wall, layer), most);
    }

    public int spoilt(int t) {
        reader.lookAll(t);
        years.settle(t);
        return years.canBe ? NONE : years.firstSpoilt(t);
    }

    public int persons(int name, int t) {
        if (!lore.isOfSort(name, NAME)) {
            return NONE;
        }
        reader.lookAll(t);
        years.settle(t);
        folk.part(name, t);
        return folk.people;
    }

    public int person(int s, int t) {
        if (!finds.isKnown(s, t)) {
            return NONE;
        }
        reader.lookAll(t);
        int name = readings.firstOf(s, NAME);
        if (name == NONE) {
            return NONE;
        }
        years.settle(t);
        folk.part(name, t);
        return folk.numberOf(s);
    }

    public int walk(int name, int person, int t) {
        if (!lore.isOfSort(name, NAME)) {
            return NONE;
        }
        reader.lookAll(t);
        years.settle(t);
        folk.part(name, t);
        if (person < 0 || person >= folk.people) {
            return NONE;
        }
        return town.leastWay(folk.wallsOf(person));
    }

    public int count(int what) {
        switch (what) {
            case 0:
                return today;
            case 1:
                return lore.words;
            case 2:
                return town.streets;
            case 3:
                return town.walls;
            case 4:
                return machine.patternCount;
            case 5:
                return finds.scrawls;
            case 6:
                return finds.photos;
            case 7:
                return finds.drawings;
            case 8:
                return facts.count;
            case 9:
                return tape.size;
            case 10:
                return outSize;
            default:
                return NONE;
        }
    }

    private boolean isAbout(int kind, int a, int b) {
        switch (kind) {
            case LIMIT_LAYER:
                return town.isLayer(a, b);
            case LIMIT_SCRAWL:
                return finds.isScrawl(a);
            case ANSWER:
                return finds.isScrawl(a) && finds.isScrawl(b) && a != b;
            case STOOD:
                return lore.isOfSort(a, NAME) && lore.isOfSort(b, OFFICE);
            case WAS_THERE:
                return lore.isOfSort(a, THING);
            default:
                return false;
        }
    }

    private static boolean areYears(int kind, int from, int to) {
        if (kind == ANSWER) {
            return true;
        }
        if (kind == STOOD) {
            return from >= 0 && from < YEARS;
        }
        return from >= 0 && from <= to && to < YEARS;
    }

    private static boolean isLetter(int letter) {
        return letter >= 0 && letter < LETTERS;
    }

    private static boolean isSmallSign(int sign) {
        return sign >= SMALL_A && sign <= SMALL_Z;
    }

    /** Bytes fed from outside, that the next WORD, PATTERNS, PHOTO or DRAWING are taken off. */
    private static final class Tape {
        final int[] bytes = new int[TAPE_MOST];
        int size = 0;

        void addNumber(int number) {
            for (int shift = 24; shift >= 0; shift -= 8) {
                if (size < TAPE_MOST) {
                    bytes[size] = (number >>> shift) & BYTE;
                    size++;
                }
            }
        }

        int at(int place) {
            return place >= 0 && place < size && place < TAPE_MOST ? bytes[place] : NONE;
        }
    }

    /** What is told of letters, WORDS and drawers; it counts as it is now, whatever the day. */
    private static final class Lore {
        final int[] strokes = new int[LETTERS * FORMS_MOST];
        final int[] formCounts = new int[LETTERS];
        final int[] letters = new int[WORDS_MOST * WORD_LONG];
        final int[] lengths = new int[WORDS_MOST];
        final int[] sorts = new int[WORDS_MOST];
        /** Of each DRAWER and letter the letters that it may be drawn as, as bits. */
        final int[] drawnAs = new int[DRAWERS * LETTERS];
        final int[] habitCounts = new int[DRAWERS];
        int words = 0;

        int addForm(int letter, int marks) {
            if (!isLetter(letter) || marks < 1 || marks > BYTE || formCounts[letter] >= FORMS_MOST) {
                return NONE;
            }
            int number = formCounts[letter];
            for (int f = 0; f < number; f++) {
                if (strokes[letter * FORMS_MOST + f] == marks) {
                    return NONE;
                }
            }
            strokes[letter * FORMS_MOST + number] = marks;
            formCounts[letter] = number + 1;
            return number;
        }

        int addWord(Tape tape, int sort) {
            if (words >= WORDS_MOST || sort < 0 || sort >= SORTS || !isWordText(tape)) {
                return NONE;
            }
            for (int w = 0; w < words; w++) {
                if (sorts[w] == sort && hasText(w, tape)) {
                    return NONE;
                }
            }
            for (int i = 0; i < tape.size && i < WORD_LONG; i++) {
                letters[words * WORD_LONG + i] = tape.at(i) - SMALL_A;
            }
            lengths[words] = tape.size;
            sorts[words] = sort;
            words++;
            return words - 1;
        }

        private boolean isWordText(Tape tape) {
            if (tape.size < 1 || tape.size > WORD_LONG) {
                return false;
            }
            for (int i = 0; i < tape.size; i++) {
                if (!isSmallSign(tape.at(i))) {
                    return false;
                }
            }
            return true;
        }

        private boolean hasText(int w, Tape tape) {
            if (lengths[w] != tape.size) {
                return false;
            }
            for (int i = 0; i < lengths[w]; i++) {
                if (letters[w * WORD_LONG + i] + SMALL_A != tape.at(i)) {
                    return false;
                }
            }
            return true;
        }

        int addHabit(int d, int letter, int drawn) {
            if (d < 0 || d >= DRAWERS || !isLetter(letter) || !isLetter(drawn) || letter == drawn) {
                return NONE;
            }
            if (hasHabit(d, letter, drawn) || habitCounts[d] >= HABITS_MOST) {
                return NONE;
            }
            drawnAs[d * LETTERS + letter] |= 1 << drawn;
            habitCounts[d]++;
            return habitCounts[d];
        }

        boolean hasHabit(int d, int letter, int drawn) {
            return (drawnAs[d * LETTERS + letter] & 1 << drawn) != 0;
        }

        boolean isOfSort(int w, int sort) {
            return w >= 0 && w < words && sorts[w] == sort;
        }
    }

    /** STREETS and WALLS, and the least ways between CORNERS. */
    private static final class Town {
        final int[] ways = new int[CORNERS * CORNERS];
        final int[] wallCorners = new int[WALLS_MOST];
        final int[] wallLayers = new int[WALLS_MOST];
        final int[] stops = new int[WALLS_MOST];
        final int[] tours = new int[(1 << WALLS_MOST) * WALLS_MOST];
        int stopCount = 0;
        int streets = 0;
        int walls = 0;

        Town() {
            Arrays.fill(ways, NO_WAY);
            for (int c = 0; c < CORNERS; c++) {
                ways[c * CORNERS + c] = 0;
            }
        }

        boolean addStreet(int a, int b, int length) {
            if (streets >= STREETS_MOST || !isCorner(a) || !isCorner(b) || a == b) {
                return false;
            }
            if (length < 1 || length > STREET_LONG) {
                return false;
            }
            streets++;
            shorten(a, b, length);
            return true;
        }

        /** A least way goes through the new STREET once at most, so one turn over all pairs is enough. */
        private void shorten(int a, int b, int length) {
            for (int i = 0; i < CORNERS; i++) {
                for (int j = 0; j < CORNERS; j++) {
                    int there = ways[i * CORNERS + a] + length + ways[b * CORNERS + j];
                    int back = ways[i * CORNERS + b] + length + ways[a * CORNERS + j];
                    int least = Math.min(there, back);
                    if (least < ways[i * CORNERS + j]) {
                        ways[i * CORNERS + j] = least;
                    }
                }
            }
        }

        int addWall(int corner, int layers) {
            if (walls >= WALLS_MOST || !isCorner(corner) || layers < 1 || layers > LAYERS_MOST) {
                return NONE;
            }
            wallCorners[walls] = corner;
            wallLayers[walls] = layers;
            walls++;
            return walls - 1;
        }

        boolean isLayer(int wall, int layer) {
            return wall >= 0 && wall < walls && layer >= 0 && layer < wallLayers[wall];
        }

        private static boolean isCorner(int corner) {
            return corner >= 0 && corner < CORNERS;
        }

        /** The least way that passes all WALLS told as bits; -2 if some can't be come to. */
        int leastWay(int wallBits) {
            gatherStops(wallBits);
            if (stopCount == 0) {
                return 0;
            }
            for (int i = 1; i < stopCount; i++) {
                if (way(0, i) >= NO_WAY) {
                    return NO_SUCH;
                }
            }
            int all = (1 << stopCount) - 1;
            for (int set = 1; set <= all; set++) {
                for (int last = 0; last < stopCount; last++) {
                    tours[set * WALLS_MOST + last] = shortestTour(set, last);
                }
            }
            int least = NO_WAY;
            for (int last = 0; last < stopCount; last++) {
                least = Math.min(least, tours[all * WALLS_MOST + last]);
            }
            return least;
        }

        private void gatherStops(int wallBits) {
            stopCount = 0;
            int seen = 0;
            for (int w = 0; w < walls; w++) {
                int corner = 1 << wallCorners[w];
                if ((wallBits & 1 << w) != 0 && (seen & corner) == 0) {
                    seen |= corner;
                    stops[stopCount] = wallCorners[w];
                    stopCount++;
                }
            }
        }

        private int way(int i, int j) {
            return ways[stops[i] * CORNERS + stops[j]];
        }

        /** The sets within a set have lesser numbers, so their tours are there already. */
        private int shortestTour(int set, int last) {
            int bit = 1 << last;
            if ((set & bit) == 0) {
                return NO_WAY;
            }
            int ahead = set & ~bit;
            if (ahead == 0) {
                return 0;
            }
            int least = NO_WAY;
            for (int i = 0; i < stopCount; i++) {
                if ((ahead & 1 << i) != 0) {
                    least = Math.min(least, tours[ahead * WALLS_MOST + i] + way(i, last));
                }
            }
            return least;
        }
    }

    /** Reads PATTERNS off the tape and finds the first FAULT; its ITEMS are a draft until a machine is built. */
    private static final class PatternText {
        final Tape tape;
        final int[] sorts = new int[PATTERNS_MOST * ITEMS_MOST];
        final boolean[] optional = new boolean[PATTERNS_MOST * ITEMS_MOST];
        final int[] sizes = new int[PATTERNS_MOST];
        int patternCount = 0;
        int faultKind = 0;
        int faultPlace = 0;
        private int items = 0;
        private boolean mayAsk = false;

        PatternText(Tape tape) {
            this.tape = tape;
        }

        boolean parse() {
            patternCount = 0;
            faultKind = 0;
            faultPlace = 0;
            startPattern();
            int place = 0;
            for (int turn = 0; turn < TEXT_MOST && faultKind == 0; turn++) {
                if (place < tape.size && place < TEXT_MOST) {
                    place = takeToken(place);
                }
            }
            if (faultKind == 0 && tape.size > TEXT_MOST) {
                refuse(CANT_COME, TEXT_MOST);
            } else if (faultKind == 0 && items > 0) {
                refuse(CANT_COME, tape.size);
            }
            return faultKind == 0;
        }

        private void startPattern() {
            items = 0;
            mayAsk = false;
        }

        private void refuse(int kind, int place) {
            faultKind = kind;
            faultPlace = place;
        }

        private int takeToken(int place) {
            int sign = tape.at(place);
            if (isSmallSign(sign)) {
                return takeItem(place);
            }
            if (sign == '?') {
                takeAsk(place);
            } else if (sign == ';') {
                takeStop(place);
            } else if (sign != ' ' && sign != '\n') {
                refuse(CANT_COME, place);
            }
            return place + 1;
        }

        private int takeItem(int place) {
            int behind = place;
            for (int i = place; i < tape.size && isSmallSign(tape.at(i)); i++) {
                behind = i + 1;
            }
            int sort = sortOf(place, behind);
            if (sort == NONE) {
                refuse(CANT_COME, place);
            } else if (items >= ITEMS_MOST || patternCount >= PATTERNS_MOST) {
                refuse(TOO_MANY, place);
            } else {
                sorts[patternCount * ITEMS_MOST + items] = sort;
                optional[patternCount * ITEMS_MOST + items] = false;
                items++;
                mayAsk = true;
            }
            return behind;
        }

        private void takeAsk(int place) {
            if (!mayAsk || items < 1) {
                refuse(CANT_COME, place);
                return;
            }
            optional[patternCount * ITEMS_MOST + items - 1] = true;
            mayAsk = false;
        }

        private void takeStop(int place) {
            if (items == 0) {
                refuse(CANT_COME, place);
                return;
            }
            boolean needed = false;
            for (int i = 0; i < items; i++) {
                needed = needed || !optional[patternCount * ITEMS_MOST + i];
            }
            if (!needed) {
                refuse(ALL_LEFT_OUT, place);
                return;
            }
            sizes[patternCount] = items;
            patternCount++;
            startPattern();
        }

        private int sortOf(int from, int behind) {
            for (int sort = 0; sort < SORTS; sort++) {
                if (spells(sortName(sort), from, behind)) {
                    return sort;
                }
            }
            return NONE;
        }

        private boolean spells(String name, int from, int behind) {
            if (name.length() != behind - from) {
                return false;
            }
            for (int i = 0; i < name.length(); i++) {
                if (name.charAt(i) != tape.at(from + i)) {
                    return false;
                }
            }
            return true;
        }

        private static String sortName(int sort) {
            switch (sort) {
                case NAME:
                    return "name";
                case TRADE:
                    return "trade";
                case OFFICE:
                    return "office";
                case THING:
                    return "thing";
                default:
                    return "other";
            }
        }
    }

    /**
     * What all PATTERNS together allow, as states with one step at most for a SORT: so one row of WORDS
     * is met once, by however many PATTERNS it can be read. A state is the set of stands in the PATTERNS.
     */
    private static final class Machine {
        final long[] stands = new long[STATES_MOST];
        final int[] steps = new int[STATES_MOST * SORTS];
        final boolean[] ends = new boolean[STATES_MOST];
        int states = 1;
        int patternCount = 0;

        Machine() {
            Arrays.fill(steps, NONE);
        }

        void build(PatternText text) {
            patternCount = text.patternCount;
            long start = 0L;
            for (int p = 0; p < patternCount; p++) {
                start |= standsFrom(text, p, 0);
            }
            states = 0;
            addState(text, start);
            int level = 0;
            for (int depth = 0; depth <= ITEMS_MOST; depth++) {
                int nextLevel = states;
                for (int q = level; q < nextLevel; q++) {
                    for (int sort = 0; sort < SORTS; sort++) {
                        steps[q * SORTS + sort] = stateOf(text, moved(text, stands[q], sort), nextLevel);
                    }
                }
                level = nextLevel;
            }
        }

        int step(int state, int sort) {
            return steps[state * SORTS + sort];
        }

        private int stateOf(PatternText text, long set, int level) {
            if (set == 0L) {
                return NONE;
            }
            for (int q = level; q < states; q++) {
                if (stands[q] == set) {
                    return q;
                }
            }
            return addState(text, set);
        }

        private int addState(PatternText text, long set) {
            if (states >= STATES_MOST) {
                return NONE;
            }
            boolean isEnd = false;
            for (int p = 0; p < patternCount; p++) {
                isEnd = isEnd || (set & standBit(p, text.sizes[p])) != 0L;
            }
            stands[states] = set;
            ends[states] = isEnd;
            states++;
            return states - 1;
        }

        private long moved(PatternText text, long set, int sort) {
            long to = 0L;
            for (int p = 0; p < patternCount; p++) {
                for (int i = 0; i < text.sizes[p]; i++) {
                    if (text.sorts[p * ITEMS_MOST + i] == sort && (set & standBit(p, i)) != 0L) {
                        to |= standsFrom(text, p, i + 1);
                    }
                }
            }
            return to;
        }

        /** A stand, and those behind it that are come to by leaving ITEMS out. */
        private static long standsFrom(PatternText text, int p, int stand) {
            long set = standBit(p, stand);
            for (int i = stand; i < text.sizes[p] && text.optional[p * ITEMS_MOST + i]; i++) {
                set |= standBit(p, i + 1);
            }
            return set;
        }

        private static long standBit(int p, int stand) {
            return 1L << (p * STANDS + stand);
        }
    }

    /** SCRAWLS with their PHOTOS and DRAWINGS, each with the day from which it is KNOWN. */
    private static final class Finds {
        final int[] wallOf = new int[SCRAWLS_MOST];
        final int[] layerOf = new int[SCRAWLS_MOST];
        final int[] places = new int[SCRAWLS_MOST];
        final int[] days = new int[SCRAWLS_MOST];
        final int[] photoScrawls = new int[PHOTOS_MOST];
        final int[] photoDays = new int[PHOTOS_MOST];
        final int[] seen = new int[PHOTOS_MOST * PLACES_MOST];
        final int[] gone = new int[PHOTOS_MOST * PLACES_MOST];
        final int[] drawingScrawls = new int[DRAWINGS_MOST];
        final int[] drawingDrawers = new int[DRAWINGS_MOST];
        final int[] drawingDays = new int[DRAWINGS_MOST];
        final int[] drawn = new int[DRAWINGS_MOST * PLACES_MOST];
        int scrawls = 0;
        int photos = 0;
        int drawings = 0;

        int addScrawl(int wall, int layer, int size, int day) {
            if (scrawls >= SCRAWLS_MOST || size < 1 || size > PLACES_MOST) {
                return NONE;
            }
            wallOf[scrawls] = wall;
            layerOf[scrawls] = layer;
            places[scrawls] = size;
            days[scrawls] = day;
            scrawls++;
            return scrawls - 1;
        }

        boolean addPhoto(int s, Tape tape, int day) {
            if (!isScrawl(s) || photos >= PHOTOS_MOST || tape.size != 2 * places[s]) {
                return false;
            }
            for (int p = 0; p < places[s]; p++) {
                if ((tape.at(2 * p) & tape.at(2 * p + 1)) != 0) {
                    return false;
                }
            }
            for (int p = 0; p < places[s]; p++) {
                seen[photos * PLACES_MOST + p] = tape.at(2 * p);
                gone[photos * PLACES_MOST + p] = tape.at(2 * p + 1);
            }
            photoScrawls[photos] = s;
            photoDays[photos] = day;
            photos++;
            return true;
        }

        boolean addDrawing(int s, int d, Tape tape, int day) {
            if (!isScrawl(s) || d < 0 || d >= DRAWERS || drawings >= DRAWINGS_MOST || tape.size != places[s]) {
                return false;
            }
            for (int p = 0; p < places[s]; p++) {
                if (!isSmallSign(tape.at(p)) && tape.at(p) != DOT) {
                    return false;
                }
            }
            for (int p = 0; p < places[s]; p++) {
                drawn[drawings * PLACES_MOST + p] = tape.at(p) == DOT ? NONE : tape.at(p) - SMALL_A;
            }
            drawingScrawls[drawings] = s;
            drawingDrawers[drawings] = d;
            drawingDays[drawings] = day;
            drawings++;
            return true;
        }

        boolean isScrawl(int s) {
            return s >= 0 && s < scrawls;
        }

        boolean isKnown(int s, int t) {
            return isScrawl(s) && days[s] <= t;
        }

        /** Days never go back, so the SCRAWLS KNOWN on a day are the first ones. */
        int knownCount(int t) {
            int known = 0;
            for (int s = 0; s < scrawls && days[s] <= t; s++) {
                known = s + 1;
            }
            return known;
        }

        int lastPhoto(int s, int t) {
            for (int i = photos - 1; i >= 0; i--) {
                if (photoScrawls[i] == s && photoDays[i] <= t) {
                    return i;
                }
            }
            return NONE;
        }

        /** Of each DRAWER the last DRAWING of a SCRAWL that is KNOWN on t. */
        void lastDrawings(int s, int t, int[] byDrawer) {
            Arrays.fill(byDrawer, NONE);
            for (int i = 0; i < drawings; i++) {
                int d = drawingDrawers[i];
                if (drawingScrawls[i] == s && drawingDays[i] <= t && d < byDrawer.length) {
                    byDrawer[d] = i;
                }
            }
        }
    }

    /**
     * What was read of each SCRAWL, with the evidence by which it was: a reading is dear, and most calls
     * ask again by the same evidence.
     */
    private static final class Readings {
        final boolean[] valid = new boolean[SCRAWLS_MOST];
        final int[] photos = new int[SCRAWLS_MOST];
        final int[] drawings = new int[SCRAWLS_MOST * DRAWERS];
        final int[] costs = new int[SCRAWLS_MOST];
        final int[] rivals = new int[SCRAWLS_MOST];
        final int[] sizes = new int[SCRAWLS_MOST];
        final int[] words = new int[SCRAWLS_MOST * ITEMS_MOST];
        final int[] firsts = new int[SCRAWLS_MOST * FIRSTS];
        final int[] forms = new int[SCRAWLS_MOST * LETTERS];
        final int[] usedCounts = new int[SCRAWLS_MOST];

        void forget() {
            for (int s = 0; s < SCRAWLS_MOST; s++) {
                valid[s] = false;
            }
        }

        void clear(int s) {
            costs[s] = NONE;
            rivals[s] = NONE;
            sizes[s] = 0;
            usedCounts[s] = 0;
            Arrays.fill(firsts, s * FIRSTS, (s + 1) * FIRSTS, NONE);
            Arrays.fill(forms, s * LETTERS, (s + 1) * LETTERS, NONE);
        }

        int firstOf(int s, int sort) {
            return firsts[s * FIRSTS + sort];
        }

        /** In how many letters two AGREE; -1 less in how many they QUARREL, if in any. */
        int compare(int a, int b) {
            int agreed = 0;
            int quarrels = 0;
            for (int letter = 0; letter < LETTERS; letter++) {
                int one = forms[a * LETTERS + letter];
                int other = forms[b * LETTERS + letter];
                if (one != NONE && other != NONE) {
                    if (one == other) {
                        agreed++;
                    } else {
                        quarrels++;
                    }
                }
            }
            return quarrels > 0 ? -1 - quarrels : agreed;
        }
    }

    /** Finds the BEST READING of a SCRAWL and the FORMS that it USED. */
    private static final class Reader {
        final Lore lore;
        final Machine machine;
        final Finds finds;
        final Readings readings;
        final int[] drawings = new int[DRAWERS];
        final int[] letterCosts = new int[PLACES_MOST * LETTERS];
        final boolean[] listed = new boolean[PLACES_MOST];
        /** Of the WORDS of one SORT and length at a place: the least COST, how many have it, the first of those. */
        final int[] fitCosts = new int[PLACES_MOST * FITS];
        final int[] fitCounts = new int[PLACES_MOST * FITS];
        final int[] fitWords = new int[PLACES_MOST * FITS];
        final int[] formBits = new int[LETTERS];
        int[] best = new int[0];
        int[] ways = new int[0];
        int[] picks = new int[0];
        int photo = NONE;
        int places = 0;

        Reader(Lore lore, Machine machine, Finds finds, Readings readings) {
            this.lore = lore;
            this.machine = machine;
            this.finds = finds;
            this.readings = readings;
        }

        void lookAll(int t) {
            int known = finds.knownCount(t);
            for (int s = 0; s < known; s++) {
                look(s, t);
            }
        }

        /** Has the reading of a SCRAWL KNOWN on t stand in the readings. */
        void look(int s, int t) {
            gather(s, t);
            if (isSameEvidence(s)) {
                return;
            }
            keepEvidence(s);
            readings.clear(s);
            weighLetters();
            startSearch();
            if (search(0, 0, 0) >= 0) {
                keepBest(s);
                keepForms(s);
            }
        }

        /** Sets what counts of a SCRAWL AS OF t. */
        void gather(int s, int t) {
            places = finds.places[s];
            photo = finds.lastPhoto(s, t);
            finds.lastDrawings(s, t, drawings);
        }

        private boolean isSameEvidence(int s) {
            if (!readings.valid[s] || readings.photos[s] != photo) {
                return false;
            }
            for (int d = 0; d < DRAWERS; d++) {
                if (readings.drawings[s * DRAWERS + d] != drawings[d]) {
                    return false;
                }
            }
            return true;
        }

        private void keepEvidence(int s) {
            readings.valid[s] = true;
            readings.photos[s] = photo;
            for (int d = 0; d < DRAWERS; d++) {
                readings.drawings[s * DRAWERS + d] = drawings[d];
            }
        }

        /** COST of a letter at a PLACE by what was gathered; NONE if it may not be there. */
        int letterCost(int place, int letter) {
            int total = photo == NONE ? 0 : formCost(place, letter);
            for (int d = 0; d < DRAWERS && total >= 0; d++) {
                int drawn = drawings[d] == NONE ? NONE : finds.drawn[drawings[d] * PLACES_MOST + place];
                if (drawn != NONE && drawn != letter) {
                    total = lore.hasHabit(d, letter, drawn) ? total + HABIT_COST : NONE;
                }
            }
            return total;
        }

        private int formCost(int place, int letter) {
            int least = NONE;
            for (int f = 0; f < lore.formCounts[letter]; f++) {
                if (mayForm(place, letter, f)) {
                    int seen = finds.seen[photo * PLACES_MOST + place];
                    int notSeen = Integer.bitCount(lore.strokes[letter * FORMS_MOST + f] & ~seen);
                    least = least == NONE ? notSeen : Math.min(least, notSeen);
                }
            }
            return least;
        }

        private boolean mayForm(int place, int letter, int f) {
            int strokes = lore.strokes[letter * FORMS_MOST + f];
            int seen = finds.seen[photo * PLACES_MOST + place];
            int gone = finds.gone[photo * PLACES_MOST + place];
            return (strokes & seen) == seen && (strokes & ~(seen | gone)) == 0;
        }

        private void weighLetters() {
            for (int place = 0; place < places; place++) {
                for (int letter = 0; letter < LETTERS; letter++) {
                    letterCosts[place * LETTERS + letter] = letterCost(place, letter);
                }
                listed[place] = false;
            }
        }

        /** The rows grow with the PATTERNS, by doubling, so that few are ever made. */
        private void startSearch() {
            int cells = machine.states * CUTS;
            if (best.length < cells) {
                int room = Math.max(cells, 2 * best.length);
                best = new int[room];
                ways = new int[room];
                picks = new int[room];
            }
            Arrays.fill(best, 0, cells, NOT_YET);
        }

        /** The least COST of WORDS from a place on, in a state of the PATTERNS; NONE if none can be. */
        private int search(int state, int place, int depth) {
            int cell = state * CUTS + place;
            if (depth > ITEMS_MOST || state < 0 || place < 0 || place > places || cell >= best.length) {
                return NONE;
            }
            if (best[cell] != NOT_YET) {
                return best[cell];
            }
            best[cell] = NONE;
            ways[cell] = 0;
            picks[cell] = NONE;
            if (place == places) {
                best[cell] = machine.ends[state] ? 0 : NONE;
                ways[cell] = 1;
                return best[cell];
            }
            listFits(place);
            for (int sort = 0; sort < SORTS; sort++) {
                int to = machine.step(state, sort);
                for (int length = 1; to != NONE && length <= WORD_LONG; length++) {
                    int fit = place * FITS + sort * WORD_LONG + length - 1;
                    if (fitCounts[fit] > 0 && search(to, place + length, depth + 1) >= 0) {
                        weigh(cell, fit, to * CUTS + place + length);
                    }
                }
            }
            return best[cell];
        }

        /** Takes a way on from a cell, by WORDS that fit there and the rest behind them, if it is as good. */
        private void weigh(int cell, int fit, int rest) {
            int total = fitCosts[fit] + best[rest];
            if (best[cell] == NONE || total < best[cell]) {
                best[cell] = total;
                ways[cell] = 0;
                picks[cell] = fitWords[fit];
            }
            if (total == best[cell]) {
                ways[cell] = Math.min(RIVALS_MOST, ways[cell] + fitCounts[fit] * ways[rest]);
                picks[cell] = Math.min(picks[cell], fitWords[fit]);
            }
        }

        /** By rising numbers, so that the first WORD of like COST is met first. */
        private void listFits(int place) {
            if (listed[place]) {
                return;
            }
            listed[place] = true;
            Arrays.fill(fitCounts, place * FITS, (place + 1) * FITS, 0);
            for (int w = 0; w < lore.words; w++) {
                int total = wordCost(w, place);
                int fit = place * FITS + lore.sorts[w] * WORD_LONG + lore.lengths[w] - 1;
                if (total >= 0 && (fitCounts[fit] == 0 || total < fitCosts[fit])) {
                    fitCosts[fit] = total;
                    fitCounts[fit] = 0;
                    fitWords[fit] = w;
                }
                if (total >= 0 && total == fitCosts[fit]) {
                    fitCounts[fit]++;
                }
            }
        }

        private int wordCost(int w, int place) {
            int length = lore.lengths[w];
            if (place + length > places) {
                return NONE;
            }
            int total = 0;
            for (int i = 0; i < length; i++) {
                int one = letterCosts[(place + i) * LETTERS + lore.letters[w * WORD_LONG + i]];
                if (one < 0) {
                    return NONE;
                }
                total += one;
            }
            return total;
        }

        private void keepBest(int s) {
            readings.costs[s] = best[0];
            readings.rivals[s] = ways[0];
            int state = 0;
            int place = 0;
            int size = 0;
            for (int i = 0; i < ITEMS_MOST && place < places && state >= 0; i++) {
                int word = picks[state * CUTS + place];
                if (word >= 0) {
                    readings.words[s * ITEMS_MOST + size] = word;
                    size++;
                    keepFirst(s, word);
                    state = machine.step(state, lore.sorts[word]);
                    place += lore.lengths[word];
                }
            }
            readings.sizes[s] = size;
        }

        private void keepFirst(int s, int word) {
            int sort = lore.sorts[word];
            if (sort < FIRSTS && readings.firstOf(s, sort) == NONE) {
                readings.firsts[s * FIRSTS + sort] = word;
            }
        }

        private void keepForms(int s) {
            if (photo == NONE) {
                return;
            }
            Arrays.fill(formBits, NONE);
            int place = 0;
            for (int i = 0; i < readings.sizes[s]; i++) {
                int word = readings.words[s * ITEMS_MOST + i];
                for (int k = 0; k < lore.lengths[word] && place < places; k++) {
                    int letter = lore.letters[word * WORD_LONG + k];
                    formBits[letter] &= formsThatMay(place, letter);
                    place++;
                }
            }
            for (int letter = 0; letter < LETTERS; letter++) {
                int number = onlyForm(formBits[letter]);
                readings.forms[s * LETTERS + letter] = number;
                readings.usedCounts[s] += number == NONE ? 0 : 1;
            }
        }

        private int formsThatMay(int place, int letter) {
            int bits = 0;
            for (int f = 0; f < lore.formCounts[letter]; f++) {
                if (mayForm(place, letter, f)) {
                    bits |= 1 << f;
                }
            }
            return bits;
        }

        private static int onlyForm(int bits) {
            for (int f = 0; f < FORMS_MOST; f++) {
                if (bits == 1 << f) {
                    return f;
                }
            }
            return NONE;
        }
    }

    /** The FACTS in the order in which they were told. */
    private static final class Facts {
        final int[] kinds = new int[FACTS_MOST];
        final int[] firsts = new int[FACTS_MOST];
        final int[] seconds = new int[FACTS_MOST];
        final int[] froms = new int[FACTS_MOST];
        final int[] tos = new int[FACTS_MOST];
        final int[] days = new int[FACTS_MOST];
        int count = 0;

        int add(int kind, int a, int b, int from, int to, int day) {
            if (count >= FACTS_MOST) {
                return NONE;
            }
            kinds[count] = kind;
            firsts[count] = a;
            seconds[count] = b;
            froms[count] = from;
            tos[count] = to;
            days[count] = day;
            count++;
            return count - 1;
        }

        /** Days never go back, so the FACTS KNOWN on a day are the first ones. */
        int knownCount(int t) {
            int known = 0;
            for (int f = 0; f < count && days[f] <= t; f++) {
                known = f + 1;
            }
            return known;
        }
    }

    /**
     * The SPANS. All that binds two years is that one is not ahead of another: then the least years that
     * each may have agree with one another, and so do the greatest, so each end is found by itself.
     */
    private static final class Years {
        final Town town;
        final Finds finds;
        final Facts facts;
        final Readings readings;
        final int[] froms = new int[DATED];
        final int[] tos = new int[DATED];
        final boolean[] held = new boolean[SCRAWLS_MOST * SLOTS];
        final long[] allowed = new long[SCRAWLS_MOST * SLOTS * YEAR_ROWS];
        final int[] least = new int[DATED];
        final int[] greatest = new int[DATED];
        int scrawls = 0;
        int heard = 0;
        boolean canBe = true;

        Years(Town town, Finds finds, Facts facts, Readings readings) {
            this.town = town;
            this.finds = finds;
            this.facts = facts;
            this.readings = readings;
        }

        /** Finds all SPANS AS OF t, by readings that stand for t. */
        void settle(int t) {
            begin(t);
            int known = facts.knownCount(t);
            for (int f = 0; f < known; f++) {
                hear(f);
            }
            canBe = settleLeast();
            if (canBe) {
                settleGreatest();
            }
        }

        /** More FACTS may also set years free again, so each beginning of them is tried, one by one. */
        int firstSpoilt(int t) {
            int known = facts.knownCount(t);
            begin(t);
            for (int f = 0; f < known; f++) {
                hear(f);
                if (!settleLeast()) {
                    return f;
                }
            }
            return NONE;
        }

        int endOf(int dated, boolean most) {
            if (!canBe) {
                return NONE;
            }
            return most ? greatest[dated] : least[dated];
        }

        boolean areApart(int a, int b) {
            return canBe && (least[a] - greatest[b] > APART_YEARS || least[b] - greatest[a] > APART_YEARS);
        }

        int datedLayer(int wall, int layer) {
            return SCRAWLS_MOST + wall * LAYERS_MOST + layer;
        }

        private void begin(int t) {
            scrawls = finds.knownCount(t);
            heard = 0;
            Arrays.fill(froms, 0);
            Arrays.fill(tos, YEARS - 1);
            Arrays.fill(allowed, 0L);
            for (int i = 0; i < SCRAWLS_MOST * SLOTS; i++) {
                held[i] = false;
            }
        }

        private void hear(int f) {
            heard = f + 1;
            switch (facts.kinds[f]) {
                case LIMIT_LAYER:
                    narrow(datedLayer(facts.firsts[f], facts.seconds[f]), f);
                    break;
                case LIMIT_SCRAWL:
                    narrow(facts.firsts[f], f);
                    break;
                case STOOD:
                    hearStood(f);
                    break;
                case WAS_THERE:
                    hearThing(f);
                    break;
                default:
                    break;
            }
        }

        private void narrow(int dated, int f) {
            froms[dated] = Math.max(froms[dated], facts.froms[f]);
            tos[dated] = Math.min(tos[dated], facts.tos[f]);
        }

        private void hearStood(int f) {
            for (int s = 0; s < scrawls; s++) {
                boolean named = readings.firstOf(s, NAME) == facts.firsts[f];
                if (named && readings.firstOf(s, OFFICE) == facts.seconds[f]) {
                    allow(s * SLOTS, facts.froms[f], facts.froms[f]);
                }
            }
        }

        private void hearThing(int f) {
            for (int s = 0; s < scrawls; s++) {
                for (int i = 0; i < readings.sizes[s]; i++) {
                    if (readings.words[s * ITEMS_MOST + i] == facts.firsts[f]) {
                        allow(s * SLOTS + 1 + i, facts.froms[f], facts.tos[f]);
                    }
                }
            }
        }

        private void allow(int slot, int from, int to) {
            held[slot] = true;
            for (int y = from; y <= to && y < YEARS; y++) {
                allowed[slot * YEAR_ROWS + (y >> 6)] |= 1L << (y & 63);
            }
        }

        private boolean mayBe(int dated, int y) {
            if (y < froms[dated] || y > tos[dated]) {
                return false;
            }
            if (dated >= SCRAWLS_MOST) {
                return true;
            }
            for (int slot = dated * SLOTS; slot < (dated + 1) * SLOTS; slot++) {
                if (held[slot] && (allowed[slot * YEAR_ROWS + (y >> 6)] >>> (y & 63) & 1L) == 0L) {
                    return false;
                }
            }
            return true;
        }

        /** The first year from y on that one may have, all others left aside; YEARS if there is none. */
        private int firstYear(int dated, int y) {
            for (int year = y; year < YEARS; year++) {
                if (mayBe(dated, year)) {
                    return year;
                }
            }
            return YEARS;
        }

        private int lastYear(int dated, int y) {
            for (int year = y; year >= 0; year--) {
                if (mayBe(dated, year)) {
                    return year;
                }
            }
            return NONE;
        }

        private boolean settleLeast() {
            for (int i = 0; i < DATED; i++) {
                least[i] = firstYear(i, 0);
            }
            boolean moves = true;
            for (int sweep = 0; sweep < SWEEPS_MOST && moves; sweep++) {
                moves = allHaveYears() && sweepUp();
            }
            return allHaveYears();
        }

        private boolean allHaveYears() {
            for (int i = 0; i < DATED; i++) {
                if (least[i] >= YEARS) {
                    return false;
                }
            }
            return true;
        }

        private void settleGreatest() {
            for (int i = 0; i < DATED; i++) {
                greatest[i] = lastYear(i, YEARS - 1);
            }
            boolean moves = true;
            for (int sweep = 0; sweep < SWEEPS_MOST && moves; sweep++) {
                moves = sweepDown();
            }
        }

        private boolean sweepUp() {
            boolean moved = false;
            for (int w = 0; w < town.walls; w++) {
                for (int l = 1; l < town.wallLayers[w]; l++) {
                    moved = raise(datedLayer(w, l), datedLayer(w, l - 1)) || moved;
                }
            }
            for (int s = 0; s < scrawls; s++) {
                int under = datedLayer(finds.wallOf[s], finds.layerOf[s]);
                moved = raise(s, under) || moved;
                if (isCovered(s)) {
                    moved = raise(under + 1, s) || moved;
                }
            }
            for (int f = 0; f < heard; f++) {
                if (facts.kinds[f] == ANSWER) {
                    moved = raise(facts.seconds[f], facts.firsts[f]) || moved;
                }
            }
            return moved;
        }

        private boolean sweepDown() {
            boolean moved = false;
            for (int f = heard - 1; f >= 0; f--) {
                if (facts.kinds[f] == ANSWER) {
                    moved = lower(facts.firsts[f], facts.seconds[f]) || moved;
                }
            }
            for (int s = scrawls - 1; s >= 0; s--) {
                int under = datedLayer(finds.wallOf[s], finds.layerOf[s]);
                if (isCovered(s)) {
                    moved = lower(s, under + 1) || moved;
                }
                moved = lower(under, s) || moved;
            }
            for (int w = 0; w < town.walls; w++) {
                for (int l = town.wallLayers[w] - 1; l >= 1; l--) {
                    moved = lower(datedLayer(w, l - 1), datedLayer(w, l)) || moved;
                }
            }
            return moved;
        }

        private boolean isCovered(int s) {
            return town.isLayer(finds.wallOf[s], finds.layerOf[s] + 1);
        }

        /** One is not ahead of the other. */
        private boolean raise(int one, int other) {
            if (least[one] >= least[other]) {
                return false;
            }
            least[one] = firstYear(one, least[other]);
            return true;
        }

        /** One is not behind the other. */
        private boolean lower(int one, int other) {
            if (greatest[one] <= greatest[other]) {
                return false;
            }
            greatest[one] = lastYear(one, greatest[other]);
            return true;
        }
    }

    /** Who wrote: SCRAWLS told apart by HANDS, and PERSONS behind a name. */
    private static final class Folk {
        final Finds finds;
        final Readings readings;
        final Years years;
        final int[] handOf = new int[SCRAWLS_MOST];
        int hands = 0;
        final int[] members = new int[PERSON_SCRAWLS];
        /** Of each member those ahead of it who can't be the same PERSON, as bits. */
        final int[] clashes = new int[PERSON_SCRAWLS];
        final int[] numbers = new int[PERSON_SCRAWLS];
        int size = 0;
        int people = 0;

        Folk(Finds finds, Readings readings, Years years) {
            this.finds = finds;
            this.readings = readings;
            this.years = years;
        }

        /** Gives HANDS AS OF t, by readings and SPANS that stand for t. */
        void giveHands(int t) {
            hands = 0;
            int known = finds.knownCount(t);
            for (int s = 0; s < known; s++) {
                handOf[s] = NONE;
                if (readings.usedCounts[s] > 0) {
                    handOf[s] = leastHand(s);
                    hands = Math.max(hands, handOf[s] + 1);
                }
            }
        }

        private int leastHand(int s) {
            for (int h = 0; h < hands; h++) {
                if (isOfHand(s, h)) {
                    return h;
                }
            }
            return hands;
        }

        private boolean isOfHand(int s, int h) {
            boolean alike = false;
            for (int o = 0; o < s; o++) {
                if (handOf[o] == h) {
                    int agreed = readings.compare(s, o);
                    if (agreed < 0 || years.areApart(s, o)) {
                        return false;
                    }
                    alike = alike || agreed >= ALIKE_LETTERS;
                }
            }
            return alike;
        }

        /** Parts the SCRAWLS of a name AS OF t, by readings and SPANS that stand for t. */
        void part(int name, int t) {
            gatherMembers(name, finds.knownCount(t));
            people = 0;
            for (int most = 1; most <= size && people == 0; most++) {
                if (canNumber(0, 0, most)) {
                    people = most;
                }
            }
        }

        private void gatherMembers(int name, int known) {
            size = 0;
            for (int s = 0; s < known && size < PERSON_SCRAWLS; s++) {
                if (readings.firstOf(s, NAME) == name) {
                    members[size] = s;
                    clashes[size] = clashesOf(s);
                    size++;
                }
            }
        }

        private int clashesOf(int s) {
            int bits = 0;
            for (int i = 0; i < size; i++) {
                if (cantBeOne(members[i], s)) {
                    bits |= 1 << i;
                }
            }
            return bits;
        }

        private boolean cantBeOne(int a, int b) {
            int one = readings.firstOf(a, TRADE);
            int other = readings.firstOf(b, TRADE);
            return one != NONE && other != NONE && one != other || years.areApart(a, b);
        }

        /** Tries the lesser numbers first, so the first parting that is found is the first of all. */
        private boolean canNumber(int i, int begun, int most) {
            if (i >= size || i >= PERSON_SCRAWLS) {
                return true;
            }
            for (int p = 0; p <= begun && p < most; p++) {
                if (mayJoin(i, p)) {
                    numbers[i] = p;
                    if (canNumber(i + 1, Math.max(begun, p + 1), most)) {
                        return true;
                    }
                }
            }
            return false;
        }

        private boolean mayJoin(int i, int p) {
            for (int k = 0; k < i; k++) {
                if (numbers[k] == p && (clashes[i] & 1 << k) != 0) {
                    return false;
                }
            }
            return true;
        }

        int numberOf(int s) {
            for (int i = 0; i < size; i++) {
                if (members[i] == s) {
                    return numbers[i];
                }
            }
            return NONE;
        }

        /** The WALLS of a PERSON's SCRAWLS, as bits. */
        int wallsOf(int p) {
            int bits = 0;
            for (int i = 0; i < size; i++) {
                if (numbers[i] == p) {
                    bits |= 1 << finds.wallOf[members[i]];
                }
            }
            return bits;
        }
    }
}

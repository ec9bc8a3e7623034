/** A bench for maps that are read by fingers: ways, names in dots, and textures of areas. */
public final class TouchMap {
    public static final int NONE = -1;

    private static final int WAYS = 12;
    private static final int POINTS = 20;
    private static final int SIDE = 400;
    private static final int MOST_WORTH = 1000;
    private static final int MOST_MISS = 100;
    private static final int MOST_GAP = 100;
    private static final int FIRST_GAP = 10;
    private static final int NO_TURN = -2;

    private static final int LETTERS = 12;
    private static final int FIRST_LETTER = 'a';
    private static final int LAST_LETTER = 'z';
    private static final int CONTRACTIONS = 10;
    private static final int LEAST_PART = 2;
    private static final int MOST_PART = 4;
    private static final int MOST_CELL = 63;
    private static final int NAMES = 8;
    private static final int SPOTS = 4;
    private static final int CELL_WIDTH = 6;
    private static final int BOX_HEIGHT = 10;
    private static final int BESIDE = 4;

    private static final int AREAS = 8;
    private static final int TEXTURES = 5;
    private static final int ALL_TEXTURES = 31;
    private static final int NO_TEXTURES = -2;

    private static final int[] ALPHABET = {
        1, 3, 9, 25, 17, 11, 27, 19, 10, 26, 5, 7, 13,
        29, 21, 15, 31, 23, 14, 30, 37, 39, 58, 45, 61, 53
    };

    private final Way[] ways;
    private final Ruler ruler;
    private final Keeper keeper;
    private final Word tape;
    private final Speller speller;
    private final Name[] names;
    private final Setter setter;
    private final Layer layer;
    private int leastGap;

    public TouchMap() {
        ways = new Way[WAYS];
        for (int w = 0; w < WAYS; w++) {
            ways[w] = new Way();
        }
        names = new Name[NAMES];
        for (int n = 0; n < NAMES; n++) {
            names[n] = new Name();
        }
        ruler = new Ruler();
        keeper = new Keeper();
        tape = new Word(LETTERS);
        speller = new Speller();
        setter = new Setter();
        layer = new Layer();
        leastGap = FIRST_GAP;
    }

    public boolean way(int w, int worth, boolean danger) {
        if (!inRange(w, WAYS - 1) || !inRange(worth, MOST_WORTH)) {
            return false;
        }
        ways[w].begin(worth, danger);
        return true;
    }

    public int point(int w, int x, int y) {
        if (!inRange(w, WAYS - 1) || !isPlace(x, y) || !ways[w].takes(x, y)) {
            return NONE;
        }
        ways[w].add(x, y);
        return ways[w].count;
    }

    public int simple(int w, int t) {
        if (!hasPoints(w) || !inRange(t, MOST_MISS)) {
            return NONE;
        }
        ruler.thin(ways[w], t);
        return ways[w].shown;
    }

    public int drawn(int w, int k) {
        if (!hasPoints(w) || !inRange(k, ways[w].shown - 1)) {
            return NONE;
        }
        return ways[w].numbers[k];
    }

    public int turn(int w, int k) {
        if (!hasPoints(w) || k < 1 || !inRange(k, ways[w].shown - 2)) {
            return NO_TURN;
        }
        return ways[w].bend(k);
    }

    public int gap(int g) {
        if (!inRange(g, MOST_GAP)) {
            return NONE;
        }
        int before = leastGap;
        leastGap = g;
        return before;
    }

    public int near(int a, int b) {
        if (!areTwoWays(a, b)) {
            return NONE;
        }
        return ruler.areTooNear(ways[a], ways[b], leastGap) ? 1 : 0;
    }

    public int crossings(int a, int b) {
        if (!areTwoWays(a, b)) {
            return NONE;
        }
        return ruler.countCrossed(ways[a], ways[b]);
    }

    public int keep() {
        return keeper.find(ways, ruler, leastGap);
    }

    public int kept(int w) {
        if (!inRange(w, WAYS - 1) || !keeper.hasFound) {
            return NONE;
        }
        return keeper.holds(w) ? 1 : 0;
    }

    // ---- dots

    public int letter(int c) {
        if (c < FIRST_LETTER || c > LAST_LETTER || tape.length >= LETTERS) {
            return NONE;
        }
        tape.append(c);
        return tape.length;
    }

    public boolean contract(int k, int cell) {
        boolean can = inRange(k, CONTRACTIONS - 1) && inRange(cell, MOST_CELL)
            && (cell == 0 || (tape.length >= LEAST_PART && tape.length <= MOST_PART));
        if (can) {
            speller.shorten(k, tape, cell);
        }
        tape.clear();
        return can;
    }

    public int name(int n, int x, int y, int worth) {
        boolean can = inRange(n, NAMES - 1) && isPlace(x, y)
            && inRange(worth, MOST_WORTH) && tape.length > 0;
        int cells = NONE;
        if (can) {
            names[n].begin(tape, x, y, worth);
            cells = speller.spell(tape);
        }
        tape.clear();
        return cells;
    }

    public boolean erase(int n) {
        if (!isName(n)) {
            return false;
        }
        names[n].isThere = false;
        return true;
    }

    public int cell(int n, int i) {
        if (!isName(n)) {
            return NONE;
        }
        int cells = speller.spell(names[n].word);
        return inRange(i, cells - 1) ? speller.cells[i] : NONE;
    }

    public int set() {
        setter.measure(names, speller);
        setter.avoid(ways, keeper);
        return setter.find(names);
    }

    public int spot(int n) {
        return inRange(n, NAMES - 1) ? setter.spots[n] : NONE;
    }

    // ---- areas

    public boolean touch(int a, int b, boolean is) {
        if (!areTwo(a, b, AREAS)) {
            return false;
        }
        join(layer.touching, a, b, is);
        return true;
    }

    public boolean apart(int t, int u, boolean is) {
        if (!areTwo(t, u, TEXTURES)) {
            return false;
        }
        join(layer.unlike, t, u, is);
        return true;
    }

    public int lay(int n) {
        return inRange(n, AREAS) ? layer.find(n) : NONE;
    }

    public int texture(int a) {
        return inRange(a, layer.laid - 1) ? layer.best[a] : NONE;
    }

    private static boolean inRange(int value, int most) {
        return value >= 0 && value <= most;
    }

    private static boolean isPlace(int x, int y) {
        return inRange(x, SIDE) && inRange(y, SIDE);
    }

    private static boolean areTwo(int a, int b, int many) {
        return inRange(a, many - 1) && inRange(b, many - 1) && a != b;
    }

    private static void join(int[] masks, int a, int b, boolean is) {
        masks[a] = is ? masks[a] | 1 << b : masks[a] & ~(1 << b);
        masks[b] = is ? masks[b] | 1 << a : masks[b] & ~(1 << a);
    }

    private boolean hasPoints(int w) {
        return inRange(w, WAYS - 1) && ways[w].count > 0;
    }

    private boolean areTwoWays(int a, int b) {
        return a != b && hasPoints(a) && hasPoints(b);
    }

    private boolean isName(int n) {
        return inRange(n, NAMES - 1) && names[n].isThere;
    }

    /** A way: its points, and the numbers of those by which it is drawn. */
    private static final class Way {
        private final int[] xs = new int[POINTS];
        private final int[] ys = new int[POINTS];
        private final int[] numbers = new int[POINTS];
        private int count;
        private int shown;
        private int worth;
        private boolean isDanger;
        private boolean isBegun;

        private void begin(int newWorth, boolean danger) {
            worth = newWorth;
            isDanger = danger;
            isBegun = true;
            count = 0;
            shown = 0;
        }

        private boolean takes(int x, int y) {
            if (!isBegun || count >= POINTS) {
                return false;
            }
            return count == 0 || xs[count - 1] != x || ys[count - 1] != y;
        }

        private void add(int x, int y) {
            xs[count] = x;
            ys[count] = y;
            count++;
            for (int k = 0; k < count; k++) {
                numbers[k] = k;
            }
            shown = count;
        }

        private int bend(int k) {
            int a = numbers[k - 1];
            int b = numbers[k];
            int c = numbers[k + 1];
            int cross = (xs[b] - xs[a]) * (ys[c] - ys[b]) - (ys[b] - ys[a]) * (xs[c] - xs[b]);
            return cross > 0 ? 1 : cross < 0 ? -1 : 0;
        }

        private void bringLine(int k, Line line) {
            bringSpan(numbers[k], numbers[k + 1], line);
        }

        private void bringSpan(int i, int j, Line line) {
            line.x1 = xs[i];
            line.y1 = ys[i];
            line.x2 = xs[j];
            line.y2 = ys[j];
        }
    }

    /** A line between two places, which may be one place: ways that come back can be drawn so. */
    private static final class Line {
        private int x1;
        private int y1;
        private int x2;
        private int y2;

        private int side(int x, int y) {
            return (x2 - x1) * (y - y1) - (y2 - y1) * (x - x1);
        }

        private int along(int x, int y) {
            return (x2 - x1) * (x - x1) + (y2 - y1) * (y - y1);
        }

        /** Below 0, 0, above 0: the place's distance is less than miss, just that, more; squared, to be exact. */
        private int compareMiss(int x, int y, int miss) {
            long square = (long) miss * miss;
            int at = along(x, y);
            int whole = along(x2, y2);
            if (at <= 0) {
                return Long.compare(squareBetween(x, y, x1, y1), square);
            }
            if (at >= whole) {
                return Long.compare(squareBetween(x, y, x2, y2), square);
            }
            long off = side(x, y);
            return Long.compare(off * off, square * whole);
        }

        private static int squareBetween(int ax, int ay, int bx, int by) {
            return (ax - bx) * (ax - bx) + (ay - by) * (ay - by);
        }

        private boolean hasEnd(int x, int y) {
            return (x1 == x && y1 == y) || (x2 == x && y2 == y);
        }

        private boolean sharesEnd(Line other) {
            return hasEnd(other.x1, other.y1) || hasEnd(other.x2, other.y2);
        }

        private static boolean areOpposite(int one, int two) {
            return (one < 0 && two > 0) || (one > 0 && two < 0);
        }

        private boolean cuts(Line other) {
            return areOpposite(side(other.x1, other.y1), side(other.x2, other.y2))
                && areOpposite(other.side(x1, y1), other.side(x2, y2));
        }

        private boolean isNearer(Line other, int distance) {
            // no distance is below 0, not even that of lines that cut
            return distance > 0 && (cuts(other)
                || compareMiss(other.x1, other.y1, distance) < 0
                || compareMiss(other.x2, other.y2, distance) < 0
                || other.compareMiss(x1, y1, distance) < 0
                || other.compareMiss(x2, y2, distance) < 0);
        }

        /** Both on one straight line, with more than a single place in common. */
        private boolean overlaps(Line other) {
            if (side(other.x1, other.y1) != 0 || side(other.x2, other.y2) != 0) {
                return false;
            }
            int one = along(other.x1, other.y1);
            int two = along(other.x2, other.y2);
            return Math.max(0, Math.min(one, two)) < Math.min(along(x2, y2), Math.max(one, two));
        }

        private boolean crosses(Line other) {
            return cuts(other) || overlaps(other);
        }

        /** Whether a place of the line is inside the box: neither the axes nor the line itself keep them apart. */
        private boolean enters(int left, int low, int right, int high) {
            if (Math.max(x1, x2) <= left || Math.min(x1, x2) >= right
                || Math.max(y1, y2) <= low || Math.min(y1, y2) >= high) {
                return false;
            }
            if (x1 == x2 && y1 == y2) {
                return true;
            }
            int a = side(left, low);
            int b = side(left, high);
            int c = side(right, low);
            int d = side(right, high);
            return Math.min(Math.min(a, b), Math.min(c, d)) < 0
                && Math.max(Math.max(a, b), Math.max(c, d)) > 0;
        }
    }

    /** What is measured on ways; its lines and rows are used again by each call. */
    private static final class Ruler {
        private final Line one = new Line();
        private final Line other = new Line();
        private final int[] least = new int[POINTS];
        private final int[] next = new int[POINTS];

        private void thin(Way way, int miss) {
            int last = way.count - 1;
            least[last] = 1;
            for (int i = last - 1; i >= 0; i--) {
                findNext(way, i, miss);
            }
            int at = 0;
            way.shown = least[0];
            for (int k = 0; k < way.shown; k++) {
                way.numbers[k] = at;
                at = next[at];
            }
        }

        private void findNext(Way way, int i, int miss) {
            least[i] = POINTS + 1;
            for (int j = i + 1; j < way.count; j++) {
                // of equals the farther one stays
                if (least[j] + 1 <= least[i] && spares(way, i, j, miss)) {
                    least[i] = least[j] + 1;
                    next[i] = j;
                }
            }
        }

        private boolean spares(Way way, int i, int j, int miss) {
            way.bringSpan(i, j, one);
            for (int k = i + 1; k < j; k++) {
                if (one.compareMiss(way.xs[k], way.ys[k], miss) > 0) {
                    return false;
                }
            }
            return true;
        }

        private boolean areTooNear(Way a, Way b, int distance) {
            for (int i = 0; i < a.shown - 1; i++) {
                a.bringLine(i, one);
                for (int j = 0; j < b.shown - 1; j++) {
                    b.bringLine(j, other);
                    if (!one.sharesEnd(other) && one.isNearer(other, distance)) {
                        return true;
                    }
                }
            }
            return false;
        }

        private int countCrossed(Way a, Way b) {
            int count = 0;
            for (int i = 0; i < a.shown - 1; i++) {
                a.bringLine(i, one);
                for (int j = 0; j < b.shown - 1; j++) {
                    b.bringLine(j, other);
                    if (one.crosses(other)) {
                        count++;
                    }
                }
            }
            return count;
        }
    }

    /**
     * Takes of each item one option or none, no two that clash: the greatest sum of worths, then the most
     * items, then the lesser option (none: the last) of the least item. Item i's option o is bit i * options + o.
     */
    private static final class Chooser {
        /** Above any number of items, so that a gain counts items only where worths are alike. */
        private static final int SCALE = 16;

        private final int items;
        private final int options;
        private final int[] clashes;
        private final int[] gains;
        private final int[] bounds;
        private final int[] trial;
        private final int[] chosen;
        private int best;

        private Chooser(int items, int options) {
            this.items = items;
            this.options = options;
            clashes = new int[items * options];
            gains = new int[items];
            bounds = new int[items + 1];
            trial = new int[items];
            chosen = new int[items];
        }

        private void price(int item, int worth) {
            gains[item] = worth * SCALE + 1;
        }

        private void clearClashes() {
            for (int bit = 0; bit < clashes.length; bit++) {
                clashes[bit] = 0;
            }
        }

        /** The later items alone are solved first: what they bring at most is a bound for all searches ahead of them. */
        private int choose(int usable) {
            for (int first = items - 1; first >= 0; first--) {
                best = -1;
                descend(this, first, usable, 0);
                bounds[first] = best;
            }
            return best / SCALE;
        }

        /** Goes one item deeper a level; a level is entered only where its bound beats the best so far. */
        private static void descend(Chooser c, int item, int free, int gained) {
            if (item >= c.items) {
                c.best = gained;
                System.arraycopy(c.trial, 0, c.chosen, 0, c.items);
                return;
            }
            int rest = c.bounds[item + 1];
            int more = gained + c.gains[item];
            for (int option = 0; option < c.options; option++) {
                int bit = item * c.options + option;
                if ((free >>> bit & 1) == 1 && more + rest > c.best) {
                    c.trial[item] = option;
                    descend(c, item + 1, free & ~c.clashes[bit], more);
                }
            }
            if (gained + rest > c.best) {
                c.trial[item] = c.options;
                descend(c, item + 1, free, gained);
            }
        }
    }

    /** Finds the kept ways, and holds those found last. */
    private static final class Keeper {
        private final Chooser chooser = new Chooser(WAYS, 1);
        private boolean hasFound;

        private int find(Way[] ways, Ruler ruler, int distance) {
            int usable = measure(ways, ruler, distance);
            for (int w = 0; w < WAYS; w++) {
                if (isDangerThere(ways[w])) {
                    usable &= ~chooser.clashes[w];
                }
            }
            // dangers that clash have taken each other away; the others clash with nothing left and are chosen
            for (int w = 0; w < WAYS; w++) {
                if (isDangerThere(ways[w]) && (usable >>> w & 1) == 0) {
                    return NONE;
                }
            }
            hasFound = true;
            return chooser.choose(usable);
        }

        private int measure(Way[] ways, Ruler ruler, int distance) {
            int there = 0;
            chooser.clearClashes();
            for (int a = 0; a < WAYS; a++) {
                chooser.price(a, ways[a].worth);
                if (ways[a].count > 0) {
                    there |= 1 << a;
                }
                for (int b = 0; b < a; b++) {
                    if (ruler.areTooNear(ways[a], ways[b], distance)) {
                        join(chooser.clashes, a, b, true);
                    }
                }
            }
            return there;
        }

        private static boolean isDangerThere(Way way) {
            return way.isDanger && way.count > 0;
        }

        private boolean holds(int w) {
            return hasFound && chooser.chosen[w] == 0;
        }
    }

    /** A row of letters. */
    private static final class Word {
        private final int[] letters;
        private int length;

        private Word(int most) {
            letters = new int[most];
        }

        private void clear() {
            length = 0;
        }

        private void append(int c) {
            if (length < letters.length) {
                letters[length] = c;
                length++;
            }
        }

        private void copy(Word from) {
            clear();
            for (int i = 0; i < from.length; i++) {
                append(from.letters[i]);
            }
        }

        private boolean hasAt(int at, Word part) {
            if (at + part.length > length) {
                return false;
            }
            for (int i = 0; i < part.length; i++) {
                if (letters[at + i] != part.letters[i]) {
                    return false;
                }
            }
            return true;
        }
    }

    /** The contractions, and the cells of the word that was spelled last. */
    private static final class Speller {
        private final Word[] parts = new Word[CONTRACTIONS];
        private final int[] partCells = new int[CONTRACTIONS];
        private final int[] least = new int[LETTERS + 1];
        private final int[] steps = new int[LETTERS];
        private final int[] firsts = new int[LETTERS];
        private final int[] cells = new int[LETTERS];

        private Speller() {
            for (int k = 0; k < CONTRACTIONS; k++) {
                parts[k] = new Word(MOST_PART);
            }
        }

        private void shorten(int k, Word letters, int cell) {
            parts[k].copy(letters);
            partCells[k] = cell;
        }

        private int spell(Word word) {
            least[word.length] = 0;
            for (int at = word.length - 1; at >= 0; at--) {
                findStep(word, at);
            }
            int at = 0;
            for (int i = 0; i < least[0]; i++) {
                cells[i] = firsts[at];
                at += steps[at];
            }
            return least[0];
        }

        private void findStep(Word word, int at) {
            least[at] = least[at + 1] + 1;
            steps[at] = 1;
            firsts[at] = ALPHABET[word.letters[at] - FIRST_LETTER];
            for (int k = 0; k < CONTRACTIONS; k++) {
                if (partCells[k] != 0 && word.hasAt(at, parts[k])) {
                    offerStep(at, parts[k].length, partCells[k]);
                }
            }
        }

        private void offerStep(int at, int step, int cell) {
            int count = least[at + step] + 1;
            // one as long as the step so far is alike in letters: the earlier one stays
            if (count < least[at] || (count == least[at] && step > steps[at])) {
                least[at] = count;
                steps[at] = step;
                firsts[at] = cell;
            }
        }
    }

    /** A word at a place. */
    private static final class Name {
        private final Word word = new Word(LETTERS);
        private int x;
        private int y;
        private int worth;
        private boolean isThere;

        private void begin(Word letters, int newX, int newY, int newWorth) {
            word.copy(letters);
            x = newX;
            y = newY;
            worth = newWorth;
            isThere = true;
        }
    }

    /** Finds the setting of the names, and holds the spots found last. Box n * SPOTS + s is name n's in spot s. */
    private static final class Setter {
        private final Chooser chooser = new Chooser(NAMES, SPOTS);
        private final Line line = new Line();
        private final int[] lefts = new int[NAMES * SPOTS];
        private final int[] lows = new int[NAMES * SPOTS];
        private final int[] widths = new int[NAMES * SPOTS];
        private final int[] spots = new int[NAMES];
        private int usable;

        private Setter() {
            for (int n = 0; n < NAMES; n++) {
                spots[n] = NONE;
            }
        }

        private void measure(Name[] names, Speller speller) {
            usable = 0;
            for (int n = 0; n < NAMES; n++) {
                if (names[n].isThere) {
                    int width = CELL_WIDTH * speller.spell(names[n].word);
                    int x = names[n].x;
                    int y = names[n].y;
                    int first = n * SPOTS;
                    putBox(first, x + BESIDE, y - BOX_HEIGHT / 2, width);
                    putBox(first + 1, x - BESIDE - width, y - BOX_HEIGHT / 2, width);
                    putBox(first + 2, x - width / 2, y + BESIDE, width);
                    putBox(first + 3, x - width / 2, y - BESIDE - BOX_HEIGHT, width);
                    chooser.price(n, names[n].worth);
                }
            }
        }

        private void putBox(int box, int left, int low, int width) {
            lefts[box] = left;
            lows[box] = low;
            widths[box] = width;
            if (isPlace(left, low) && isPlace(left + width, low + BOX_HEIGHT)) {
                usable |= 1 << box;
            }
        }

        private boolean isUsable(int box) {
            return (usable >>> box & 1) == 1;
        }

        private void avoid(Way[] ways, Keeper keeper) {
            for (int w = 0; w < WAYS; w++) {
                if (keeper.holds(w)) {
                    avoidWay(ways[w]);
                }
            }
        }

        private void avoidWay(Way way) {
            for (int k = 0; k < way.shown - 1; k++) {
                way.bringLine(k, line);
                for (int box = 0; box < NAMES * SPOTS; box++) {
                    if (isUsable(box) && line.enters(lefts[box], lows[box],
                        lefts[box] + widths[box], lows[box] + BOX_HEIGHT)) {
                        usable &= ~(1 << box);
                    }
                }
            }
        }

        private int find(Name[] names) {
            chooser.clearClashes();
            for (int a = 0; a < NAMES * SPOTS; a++) {
                for (int b = 0; b < a; b++) {
                    if (isUsable(a) && isUsable(b) && overlap(a, b)) {
                        join(chooser.clashes, a, b, true);
                    }
                }
            }
            int sum = chooser.choose(usable);
            for (int n = 0; n < NAMES; n++) {
                spots[n] = names[n].isThere ? chooser.chosen[n] : NONE;
            }
            return sum;
        }

        private boolean overlap(int a, int b) {
            return lefts[a] < lefts[b] + widths[b] && lefts[b] < lefts[a] + widths[a]
                && lows[a] < lows[b] + BOX_HEIGHT && lows[b] < lows[a] + BOX_HEIGHT;
        }
    }

    /** Finds the textures of areas, and holds those found last. */
    private static final class Layer {
        private final int[] touching = new int[AREAS];
        private final int[] unlike = new int[TEXTURES];
        private final int[] trial = new int[AREAS];
        private final int[] best = new int[AREAS];
        private final long[] dead = new long[AREAS];
        private int laid;

        private int find(int n) {
            for (int area = 0; area < AREAS; area++) {
                dead[area] = 0;
            }
            for (int size = 0; size <= TEXTURES; size++) {
                if (findOfSize(n, size)) {
                    laid = n;
                    return size;
                }
            }
            return NO_TEXTURES;
        }

        private boolean findOfSize(int n, int size) {
            boolean found = false;
            for (int allowed = 0; allowed <= ALL_TEXTURES; allowed++) {
                if (Integer.bitCount(allowed) == size && descend(this, 0, n, openAll(n, allowed))
                    && (!found || isTrialLess(n))) {
                    System.arraycopy(trial, 0, best, 0, n);
                    found = true;
                }
            }
            return found;
        }

        private boolean isTrialLess(int n) {
            for (int area = 0; area < n; area++) {
                if (trial[area] != best[area]) {
                    return trial[area] < best[area];
                }
            }
            return false;
        }

        /** The textures open to each area, TEXTURES bits an area. */
        private static long openAll(int n, int allowed) {
            long open = 0;
            for (int area = 0; area < n; area++) {
                open |= (long) allowed << area * TEXTURES;
            }
            return open;
        }

        /** Lays the areas from this one on, with the least textures that are open to them. */
        private static boolean descend(Layer l, int area, int n, long open) {
            if (area >= n) {
                return true;
            }
            // it failed where all of this and maybe more was open: so it does again
            if ((open & ~l.dead[area]) == 0) {
                return false;
            }
            for (int t = 0; t < TEXTURES; t++) {
                if ((open >>> area * TEXTURES + t & 1) == 1) {
                    l.trial[area] = t;
                    if (descend(l, area + 1, n, l.narrow(area, t, n, open))) {
                        return true;
                    }
                }
            }
            l.dead[area] = open;
            return false;
        }

        private long narrow(int area, int t, int n, long open) {
            long left = open & ~((long) ALL_TEXTURES << area * TEXTURES);
            for (int b = area + 1; b < n; b++) {
                if ((touching[area] >>> b & 1) == 1) {
                    left &= ~((long) (ALL_TEXTURES & ~unlike[t]) << b * TEXTURES);
                }
            }
            return left;
        }
    }
}

import java.util.ArrayList;
import java.util.List;
import java.util.TreeSet;

/** The document told again as slowly and plainly as can be: every choice is tried, by other formulas than TouchMap's. */
final class Plain {
    private static final int[] DOTS = {1, 3, 9, 25, 17, 11, 27, 19, 10, 26, 5, 7, 13, 29, 21, 15, 31, 23, 14, 30, 37, 39, 58, 45, 61, 53};

    private record Place(long x, long y) { }

    private record Line(Place a, Place b) { }

    private record Box(int left, int low, int right, int high) { }

    private record Name(String word, int x, int y, int worth) { }

    private static final class Way {
        private final int worth;
        private final boolean danger;
        private final List<Place> places = new ArrayList<>();
        private List<Integer> drawn = new ArrayList<>();

        private Way(int worth, boolean danger) {
            this.worth = worth;
            this.danger = danger;
        }

        private List<Line> lines() {
            List<Line> lines = new ArrayList<>();
            for (int k = 1; k < drawn.size(); k++) {
                lines.add(new Line(places.get(drawn.get(k - 1)), places.get(drawn.get(k))));
            }
            return lines;
        }
    }

    private final Way[] ways = new Way[12];
    private int gap = 10;
    private boolean[] kept;
    private String tape = "";
    private final String[] parts = new String[10];
    private final int[] partCells = new int[10];
    private final Name[] names = new Name[8];
    private final int[] spots = {-1, -1, -1, -1, -1, -1, -1, -1};
    private final boolean[][] touching = new boolean[8][8];
    private final boolean[][] apart = new boolean[5][5];
    private int[] laid = {};
    private int[] best;
    private long bestValue;

    // ---- ways

    private static boolean in(int value, int least, int most) {
        return least <= value && value <= most;
    }

    private boolean there(int w) {
        return in(w, 0, 11) && ways[w] != null && !ways[w].places.isEmpty();
    }

    boolean way(int w, int worth, boolean danger) {
        if (!in(w, 0, 11) || !in(worth, 0, 1000)) {
            return false;
        }
        ways[w] = new Way(worth, danger);
        return true;
    }

    int point(int w, int x, int y) {
        if (!in(w, 0, 11) || ways[w] == null || !in(x, 0, 400) || !in(y, 0, 400)) {
            return -1;
        }
        List<Place> places = ways[w].places;
        Place place = new Place(x, y);
        if (places.size() == 20 || (!places.isEmpty() && places.get(places.size() - 1).equals(place))) {
            return -1;
        }
        places.add(place);
        ways[w].drawn = new ArrayList<>();
        for (int i = 0; i < places.size(); i++) {
            ways[w].drawn.add(i);
        }
        return places.size();
    }

    /** The fewest are tried first, and of as many the farther ones: so the first that stay within t are the ones asked for. */
    int simple(int w, int t) {
        if (!there(w) || !in(t, 0, 100)) {
            return -1;
        }
        List<Integer> numbers = new ArrayList<>(List.of(0));
        int size = 1;
        while (!tryPoints(ways[w].places, numbers, size, t)) {
            size++;
        }
        ways[w].drawn = numbers;
        return size;
    }

    private static boolean tryPoints(List<Place> places, List<Integer> numbers, int size, int t) {
        int at = numbers.get(numbers.size() - 1);
        if (numbers.size() == size) {
            return at == places.size() - 1;
        }
        for (int next = places.size() - 1; next > at; next--) {
            numbers.add(next);
            if (isWithin(places, at, next, t) && tryPoints(places, numbers, size, t)) {
                return true;
            }
            numbers.remove(numbers.size() - 1);
        }
        return false;
    }

    private static boolean isWithin(List<Place> places, int from, int to, int t) {
        Line line = new Line(places.get(from), places.get(to));
        for (int i = from + 1; i < to; i++) {
            if (compareDistance(line, places.get(i), t) > 0) {
                return false;
            }
        }
        return true;
    }

    private static boolean isSimpler(List<Integer> one, List<Integer> other) {
        if (one.size() != other.size()) {
            return one.size() < other.size();
        }
        for (int k = 0; k < one.size(); k++) {
            if (!one.get(k).equals(other.get(k))) {
                return one.get(k) > other.get(k);
            }
        }
        return false;
    }

    /** The nearest place is a + s (b - a), s = dot / whole, held between 0 and 1. */
    private static int compareDistance(Line l, Place p, long distance) {
        long dx = l.b.x - l.a.x;
        long dy = l.b.y - l.a.y;
        long whole = dx * dx + dy * dy;
        if (whole == 0) {
            whole = 1;
        }
        long dot = Math.min(whole, Math.max(0, (p.x - l.a.x) * dx + (p.y - l.a.y) * dy));
        long x = (l.a.x - p.x) * whole + dot * dx;
        long y = (l.a.y - p.y) * whole + dot * dy;
        return Long.compare(x * x + y * y, distance * distance * whole * whole);
    }

    int drawn(int w, int k) {
        return there(w) && in(k, 0, ways[w].drawn.size() - 1) ? ways[w].drawn.get(k) : -1;
    }

    int turn(int w, int k) {
        if (!there(w) || !in(k, 1, ways[w].drawn.size() - 2)) {
            return -2;
        }
        Line before = ways[w].lines().get(k - 1);
        Line behind = ways[w].lines().get(k);
        return Long.signum(cross(before.a, before.b, behind.a, behind.b));
    }

    private static long cross(Place a, Place b, Place c, Place d) {
        return (b.x - a.x) * (d.y - c.y) - (b.y - a.y) * (d.x - c.x);
    }

    int gap(int g) {
        if (!in(g, 0, 100)) {
            return -1;
        }
        int before = gap;
        gap = g;
        return before;
    }

    int near(int a, int b) {
        return a != b && there(a) && there(b) ? (tooNear(a, b) ? 1 : 0) : -1;
    }

    private boolean tooNear(int a, int b) {
        for (Line l : ways[a].lines()) {
            for (Line m : ways[b].lines()) {
                boolean common = l.a.equals(m.a) || l.a.equals(m.b) || l.b.equals(m.a) || l.b.equals(m.b);
                if (!common && isBelow(l, m, gap)) {
                    return true;
                }
            }
        }
        return false;
    }

    private static boolean isBelow(Line l, Line m, int distance) {
        if (meet(l, m, false)) {
            return 0 < distance;
        }
        return compareDistance(l, m.a, distance) < 0 || compareDistance(l, m.b, distance) < 0
            || compareDistance(m, l.a, distance) < 0 || compareDistance(m, l.b, distance) < 0;
    }

    /** Whether they have a place in common; if inside, one that is no end of either. */
    private static boolean meet(Line l, Line m, boolean inside) {
        long den = cross(l.a, l.b, m.a, m.b);
        if (den != 0) {
            long s = cross(l.a, m.a, m.a, m.b) * Long.signum(den);
            long u = cross(l.a, m.a, l.a, l.b) * Long.signum(den);
            long one = Math.abs(den);
            return inside ? 0 < s && s < one && 0 < u && u < one : 0 <= s && s <= one && 0 <= u && u <= one;
        }
        // half way between two ends there is a place of what they have in common, or that is an end itself
        Line l2 = twice(l);
        Line m2 = twice(m);
        Place[] ends = {l.a, l.b, m.a, m.b};
        for (Place e : ends) {
            for (Place f : ends) {
                Place p = new Place(e.x + f.x, e.y + f.y);
                boolean end = p.equals(l2.a) || p.equals(l2.b) || p.equals(m2.a) || p.equals(m2.b);
                if (compareDistance(l2, p, 0) == 0 && compareDistance(m2, p, 0) == 0 && !(inside && end)) {
                    return true;
                }
            }
        }
        return false;
    }

    private static Line twice(Line l) {
        return new Line(new Place(2 * l.a.x, 2 * l.a.y), new Place(2 * l.b.x, 2 * l.b.y));
    }

    int crossings(int a, int b) {
        if (a == b || !there(a) || !there(b)) {
            return -1;
        }
        int count = 0;
        for (Line l : ways[a].lines()) {
            for (Line m : ways[b].lines()) {
                count += meet(l, m, true) ? 1 : 0;
            }
        }
        return count;
    }

    int keep() {
        boolean[][] clash = new boolean[12][12];
        for (int a = 0; a < 12; a++) {
            for (int b = 0; b < 12; b++) {
                clash[a][b] = near(a, b) == 1;
            }
        }
        int found = -1;
        for (int mask = 0; mask < 1 << 12; mask++) {
            if (mayKeep(mask, clash) && (found < 0 || isBetterKept(mask, found))) {
                found = mask;
            }
        }
        if (found < 0) {
            return -1;
        }
        kept = new boolean[12];
        for (int w = 0; w < 12; w++) {
            kept[w] = (found >> w & 1) == 1;
        }
        return worthOf(found);
    }

    private boolean mayKeep(int mask, boolean[][] clash) {
        for (int a = 0; a < 12; a++) {
            boolean has = (mask >> a & 1) == 1;
            if ((has && !there(a)) || (!has && there(a) && ways[a].danger)) {
                return false;
            }
            for (int b = 0; b < a; b++) {
                if (has && (mask >> b & 1) == 1 && clash[a][b]) {
                    return false;
                }
            }
        }
        return true;
    }

    private int worthOf(int mask) {
        int sum = 0;
        for (int w = 0; w < 12; w++) {
            sum += (mask >> w & 1) == 1 ? ways[w].worth : 0;
        }
        return sum;
    }

    private boolean isBetterKept(int one, int other) {
        if (worthOf(one) != worthOf(other)) {
            return worthOf(one) > worthOf(other);
        }
        if (Integer.bitCount(one) != Integer.bitCount(other)) {
            return Integer.bitCount(one) > Integer.bitCount(other);
        }
        return (Integer.lowestOneBit(one ^ other) & one) != 0;
    }

    int kept(int w) {
        return in(w, 0, 11) && kept != null ? (kept[w] ? 1 : 0) : -1;
    }

    // ---- dots

    int letter(int c) {
        if (!in(c, 'a', 'z') || tape.length() == 12) {
            return -1;
        }
        tape += (char) c;
        return tape.length();
    }

    boolean contract(int k, int cell) {
        String letters = tape;
        tape = "";
        if (!in(k, 0, 9) || !in(cell, 0, 63) || (cell != 0 && !in(letters.length(), 2, 4))) {
            return false;
        }
        parts[k] = cell == 0 ? null : letters;
        partCells[k] = cell;
        return true;
    }

    int name(int n, int x, int y, int worth) {
        String word = tape;
        tape = "";
        if (!in(n, 0, 7) || !in(x, 0, 400) || !in(y, 0, 400) || !in(worth, 0, 1000) || word.isEmpty()) {
            return -1;
        }
        names[n] = new Name(word, x, y, worth);
        return spell(word).size();
    }

    boolean erase(int n) {
        boolean was = in(n, 0, 7) && names[n] != null;
        if (was) {
            names[n] = null;
        }
        return was;
    }

    int cell(int n, int i) {
        if (!in(n, 0, 7) || names[n] == null) {
            return -1;
        }
        List<Integer> cells = spell(names[n].word);
        return in(i, 0, cells.size() - 1) ? cells.get(i) : -1;
    }

    /** The cells by the best of all ways to part the word; each is tried by its lengths, as bits behind letters. */
    private List<Integer> spell(String word) {
        List<Integer> cells = null;
        List<Integer> lengths = null;
        for (int cuts = 0; cuts < 1 << word.length() - 1; cuts++) {
            List<Integer> nextCells = new ArrayList<>();
            List<Integer> nextLengths = new ArrayList<>();
            int from = 0;
            for (int to = 1; to <= word.length(); to++) {
                if (to == word.length() || (cuts >> to - 1 & 1) == 1) {
                    nextCells.add(cellOf(word.substring(from, to)));
                    nextLengths.add(to - from);
                    from = to;
                }
            }
            // parts are compared like kept points: fewer, then the greater where two first differ
            if (!nextCells.contains(-1) && (lengths == null || isSimpler(nextLengths, lengths))) {
                cells = nextCells;
                lengths = nextLengths;
            }
        }
        return cells;
    }

    private int cellOf(String part) {
        for (int k = 0; k < 10; k++) {
            if (part.equals(parts[k])) {
                return partCells[k];
            }
        }
        return part.length() == 1 ? DOTS[part.charAt(0) - 'a'] : -1;
    }

    int set() {
        Box[][] boxes = new Box[8][];
        for (int n = 0; n < 8; n++) {
            if (names[n] != null) {
                boxes[n] = boxesOf(names[n]);
            }
        }
        bestValue = -1;
        trySpots(0, boxes, new int[8], new ArrayList<>(), 0);
        System.arraycopy(best, 0, spots, 0, 8);
        return (int) (bestValue / 100);
    }

    /** Tries all in the order in which the earlier of equals is the one asked for. */
    private void trySpots(int n, Box[][] boxes, int[] chosen, List<Box> taken, long value) {
        if (n == 8) {
            if (value > bestValue) {
                bestValue = value;
                best = chosen.clone();
            }
            return;
        }
        if (boxes[n] == null) {
            chosen[n] = -1;
            trySpots(n + 1, boxes, chosen, taken, value);
            return;
        }
        for (int s = 0; s < 4; s++) {
            Box box = boxes[n][s];
            if (box != null && taken.stream().noneMatch(t -> overlap(t, box))) {
                chosen[n] = s;
                taken.add(box);
                trySpots(n + 1, boxes, chosen, taken, value + names[n].worth * 100L + 1);
                taken.remove(taken.size() - 1);
            }
        }
        chosen[n] = 4;
        trySpots(n + 1, boxes, chosen, taken, value);
    }

    private Box[] boxesOf(Name name) {
        int cells = spell(name.word).size();
        int x = name.x;
        int y = name.y;
        Box[] boxes = {
            new Box(x + 4, y - 5, x + 4 + 6 * cells, y + 5),
            new Box(x - 4 - 6 * cells, y - 5, x - 4, y + 5),
            new Box(x - 3 * cells, y + 4, x + 3 * cells, y + 14),
            new Box(x - 3 * cells, y - 14, x + 3 * cells, y - 4)
        };
        for (int s = 0; s < 4; s++) {
            Box b = boxes[s];
            if (b.left < 0 || b.low < 0 || b.right > 400 || b.high > 400 || isCovering(b)) {
                boxes[s] = null;
            }
        }
        return boxes;
    }

    private boolean isCovering(Box box) {
        for (int w = 0; w < 12; w++) {
            if (kept != null && kept[w] && ways[w] != null) {
                for (Line l : ways[w].lines()) {
                    if (isInside(l, box)) {
                        return true;
                    }
                }
            }
        }
        return false;
    }

    private static boolean overlap(Box a, Box b) {
        return Math.min(a.right, b.right) - Math.max(a.left, b.left) > 0
            && Math.min(a.high, b.high) - Math.max(a.low, b.low) > 0;
    }

    /** The shares s at which the line meets a border cut it into pieces: their middles, and its ends, are looked at. */
    private static boolean isInside(Line l, Box box) {
        long dx = l.b.x - l.a.x;
        long dy = l.b.y - l.a.y;
        long den = (dx == 0 ? 1 : Math.abs(dx)) * (dy == 0 ? 1 : Math.abs(dy));
        TreeSet<Long> shares = new TreeSet<>(List.of(0L, den));
        if (dx != 0) {
            shares.add((box.left - l.a.x) * den / dx);
            shares.add((box.right - l.a.x) * den / dx);
        }
        if (dy != 0) {
            shares.add((box.low - l.a.y) * den / dy);
            shares.add((box.high - l.a.y) * den / dy);
        }
        Long before = null;
        for (long share : shares) {
            if (before != null && isShareInside(l, box, before + share, 2 * den)) {
                return true;
            }
            if (isShareInside(l, box, share, den)) {
                return true;
            }
            before = share;
        }
        return false;
    }

    private static boolean isShareInside(Line l, Box box, long share, long den) {
        long x = l.a.x * den + (l.b.x - l.a.x) * share;
        long y = l.a.y * den + (l.b.y - l.a.y) * share;
        return 0 <= share && share <= den
            && box.left * den < x && x < box.right * den && box.low * den < y && y < box.high * den;
    }

    int spot(int n) {
        return in(n, 0, 7) ? spots[n] : -1;
    }

    // ---- areas

    boolean touch(int a, int b, boolean is) {
        if (!in(a, 0, 7) || !in(b, 0, 7) || a == b) {
            return false;
        }
        touching[a][b] = is;
        touching[b][a] = is;
        return true;
    }

    boolean apart(int t, int u, boolean is) {
        if (!in(t, 0, 4) || !in(u, 0, 4) || t == u) {
            return false;
        }
        apart[t][u] = is;
        apart[u][t] = is;
        return true;
    }

    int lay(int n) {
        if (!in(n, 0, 8)) {
            return -1;
        }
        best = null;
        bestValue = 6;
        tryTextures(0, new int[n], 0);
        if (best == null) {
            return -2;
        }
        laid = best;
        return (int) bestValue;
    }

    private void tryTextures(int a, int[] chosen, int used) {
        if (a == chosen.length) {
            if (Integer.bitCount(used) < bestValue) {
                bestValue = Integer.bitCount(used);
                best = chosen.clone();
            }
            return;
        }
        for (int t = 0; t < 5; t++) {
            boolean may = true;
            for (int b = 0; b < a; b++) {
                may &= !touching[a][b] || (chosen[b] != t && apart[chosen[b]][t]);
            }
            if (may) {
                chosen[a] = t;
                tryTextures(a + 1, chosen, used | 1 << t);
            }
        }
    }

    int texture(int a) {
        return in(a, 0, laid.length - 1) ? laid[a] : -1;
    }
}

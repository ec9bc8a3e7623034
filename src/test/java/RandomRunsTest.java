import java.util.Random;

/** Promises 1 to 22: runs of 512 calls, the same ones on TouchMap and on Plain; the seeds are fixed. */
public final class RandomRunsTest {
    private static final int RUNS = 720;
    private static final int CALLS = 512;
    private static final int MOST_AT_ONCE = 15;

    private final Random random;
    private final TouchMap map = new TouchMap();
    private final Plain plain = new Plain();
    private final Check check;
    private final int side;
    private final int grid;
    private final int most;
    private final int letters;
    private final int firstKind;
    private final int kinds;
    private int alike;
    private int calls;

    private RandomRunsTest(int run, Check check) {
        random = new Random(run);
        this.check = check;
        // small sides and coarse grids make what is near, alike, straight or on a border common
        side = new int[] {20, 60, 150, 400}[run % 4];
        grid = new int[] {1, 3, 5, 10}[run / 4 % 4];
        most = new int[] {2, 10, 1000}[run % 3];
        letters = 1 + run % 5;
        // all kinds of calls, those on ways or on dots alone, and both
        firstKind = new int[] {0, 0, 45, 0}[run / 16 % 4];
        kinds = new int[] {100, 45, 33, 78}[run / 16 % 4];
    }

    public static void main(String[] args) {
        Check check = new Check();
        for (int run = 0; run < RUNS; run++) {
            RandomRunsTest test = new RandomRunsTest(run, check);
            // what an object answers beyond so many calls is free
            while (test.calls <= CALLS - MOST_AT_ONCE) {
                test.call(run + "/" + test.calls + ": ");
            }
        }
        check.end();
    }

    /** Mostly 0 .. many - 1, at times one beyond. */
    private int number(int many) {
        return random.nextInt(40) == 0 ? (random.nextBoolean() ? -1 : many) : random.nextInt(many);
    }

    private int place() {
        if (random.nextInt(60) == 0) {
            return random.nextBoolean() ? -1 : 401;
        }
        int at = random.nextInt(side / grid + 1) * grid;
        return random.nextInt(3) == 0 && alike % 2 == 0 ? 400 - at : at;
    }

    /** Far, as a rule, so that not all calls of a run are spent on looking. */
    private int step(int many) {
        return random.nextInt(3) == 0 ? 1 : 1 + random.nextInt(many);
    }

    private int worth() {
        return random.nextInt(60) == 0 ? 1001 : random.nextInt(most + 1);
    }

    private void due(String call, long got, long want) {
        calls++;
        check.due(call, got, want);
    }

    private void due(String call, boolean got, boolean want) {
        calls++;
        check.due(call, got, want);
    }

    private void call(String at) {
        int kind = firstKind + random.nextInt(kinds);
        if (random.nextInt(20) == 0) {
            alike++;
        }
        if (kind < 45) {
            callWays(at, kind);
        } else if (kind < 78) {
            callDots(at, kind);
        } else {
            callAreas(at, kind);
        }
    }

    private void callWays(String at, int kind) {
        int w = number(12);
        if (kind < 4) {
            int worth = worth();
            boolean danger = random.nextInt(6) == 0;
            due(at + "way", map.way(w, worth, danger), plain.way(w, worth, danger));
        } else if (kind < 26) {
            int x = place();
            int y = place();
            due(at + "point", map.point(w, x, y), plain.point(w, x, y));
        } else if (kind < 30) {
            int t = random.nextInt(10) == 0 ? number(101) : random.nextInt(grid * 3);
            due(at + "simple", map.simple(w, t), plain.simple(w, t));
        } else if (kind < 33) {
            int k = random.nextInt(22) - 1;
            due(at + "drawn", map.drawn(w, k), plain.drawn(w, k));
            due(at + "turn", map.turn(w, k), plain.turn(w, k));
        } else if (kind < 35) {
            int g = random.nextInt(3) == 0 ? number(101) : random.nextInt(12);
            due(at + "gap", map.gap(g), plain.gap(g));
        } else if (kind < 40) {
            int b = number(12);
            due(at + "near", map.near(w, b), plain.near(w, b));
            due(at + "crossings", map.crossings(w, b), plain.crossings(w, b));
        } else {
            due(at + "keep", map.keep(), plain.keep());
            for (int v = -1; v <= 12; v += step(14)) {
                due(at + "kept", map.kept(v), plain.kept(v));
            }
        }
    }

    private void callDots(String at, int kind) {
        int n = number(8);
        if (kind < 63) {
            for (int i = random.nextInt(6); i >= 0; i--) {
                int c = random.nextInt(50) == 0 ? 'a' - 1 : 'a' + random.nextInt(letters);
                due(at + "letter", map.letter(c), plain.letter(c));
            }
        } else if (kind < 67) {
            int k = number(10);
            int cell = random.nextInt(4) == 0 ? 0 : number(64);
            due(at + "contract", map.contract(k, cell), plain.contract(k, cell));
        } else if (kind < 74) {
            int x = place();
            int y = place();
            int worth = worth();
            due(at + "name", map.name(n, x, y, worth), plain.name(n, x, y, worth));
        } else if (kind < 75) {
            due(at + "erase", map.erase(n), plain.erase(n));
        } else if (kind < 76) {
            for (int i = -1; i <= 12; i += step(14)) {
                due(at + "cell", map.cell(n, i), plain.cell(n, i));
            }
        } else {
            due(at + "set", map.set(), plain.set());
            for (int m = -1; m <= 8; m += step(10)) {
                due(at + "spot", map.spot(m), plain.spot(m));
            }
        }
    }

    private void callAreas(String at, int kind) {
        boolean is = random.nextInt(3) != 0;
        if (kind < 87) {
            int a = number(8);
            int b = number(8);
            due(at + "touch", map.touch(a, b, is), plain.touch(a, b, is));
        } else if (kind < 94) {
            int t = number(5);
            int u = number(5);
            due(at + "apart", map.apart(t, u, is), plain.apart(t, u, is));
        } else {
            int n = number(9);
            due(at + "lay", map.lay(n), plain.lay(n));
            for (int a = -1; a <= 8; a += step(10)) {
                due(at + "texture", map.texture(a), plain.texture(a));
            }
        }
    }
}

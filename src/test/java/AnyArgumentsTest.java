import java.util.Random;

/** No call throws, whatever it is given, in whatever state; the answers stay in their ranges. */
public final class AnyArgumentsTest {
    private static final int[] EDGES = {Integer.MIN_VALUE, Integer.MIN_VALUE + 1, -401, -2, -1, 0, 1, 2, 3, 4, 5, 7, 8,
        9, 10, 11, 12, 13, 19, 20, 21, 63, 64, 97, 98, 122, 123, 400, 401, 1000, 1001, 65536, Integer.MAX_VALUE};
    private static final Check check = new Check();

    public static void main(String[] args) {
        fullestObject();
        for (int run = 0; run < 2000; run++) {
            Random random = new Random(run);
            TouchMap map = new TouchMap();
            try {
                for (int i = 0; i < 512; i++) {
                    call(map, random);
                }
            } catch (RuntimeException thrown) {
                check.due("run " + run + " threw " + thrown, 1, 0);
            }
        }
        check.end();
    }

    private static int any(Random random, int usual) {
        return random.nextInt(4) == 0 ? EDGES[random.nextInt(EDGES.length)] : random.nextInt(usual);
    }

    private static void inside(String call, long got, long least, long most) {
        check.due(call + " gave " + got + ": within range", got >= least && got <= most, true);
    }

    private static void call(TouchMap map, Random random) {
        int a = any(random, 12);
        int b = any(random, 13);
        int c = any(random, 401);
        int d = any(random, 401);
        boolean is = random.nextBoolean();
        switch (random.nextInt(25)) {
            case 0 -> map.way(a, c, is && a % 4 == 0);
            case 1, 2, 3 -> inside("point", map.point(a, c, d), -1, 20);
            case 4 -> inside("simple", map.simple(a, b), -1, 20);
            case 5 -> inside("drawn", map.drawn(a, b), -1, 19);
            case 6 -> inside("turn", map.turn(a, b), -2, 1);
            case 7 -> inside("gap", map.gap(b), -1, 100);
            case 8 -> inside("near", map.near(a, b), -1, 1);
            case 9 -> inside("crossings", map.crossings(a, b), -1, 19 * 19);
            case 10 -> inside("keep", map.keep(), -1, 12000);
            case 11 -> inside("kept", map.kept(a), -1, 1);
            case 12, 13, 14 -> inside("letter", map.letter(97 + any(random, 3)), -1, 12);
            case 15 -> map.contract(a, any(random, 64));
            case 16 -> inside("name", map.name(a, c, d, b), -1, 12);
            case 17 -> map.erase(a);
            case 18 -> inside("cell", map.cell(a, b), -1, 63);
            case 19 -> inside("set", map.set(), 0, 8000);
            case 20 -> inside("spot", map.spot(a), -1, 4);
            case 21 -> map.touch(any(random, 8), any(random, 8), is);
            case 22 -> map.apart(any(random, 5), any(random, 5), is);
            case 23 -> inside("lay", map.lay(any(random, 9)), -2, 5);
            default -> inside("texture", map.texture(a), -1, 4);
        }
    }

    /** As much of all as there may be. */
    private static void fullestObject() {
        TouchMap map = new TouchMap();
        for (int w = 0; w < 12; w++) {
            map.way(w, 1000, false);
            for (int i = 0; i < 20; i++) {
                check.due("point", map.point(w, i % 2 == 0 ? 0 : 400, 20 * i + w), i + 1);
            }
        }
        check.due("crossings", map.crossings(0, 11), 18);
        check.due("simple", map.simple(0, 100), 6);
        map.gap(0);
        check.due("keep", map.keep(), 12000);
        for (int n = 0; n < 8; n++) {
            check.letters(map, "zzzzzzzzzzzz");
            check.due("name", map.name(n, 200, 40 * n + 40, 1000), 12);
        }
        inside("set", map.set(), 0, 8000);
    }
}

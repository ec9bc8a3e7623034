/** Promises 19 to 22: touch, apart, lay, texture. */
public final class AreasTest {
    private static final Check check = new Check();

    public static void main(String[] args) {
        pairs();
        fewestTextures();
        lesserTextures();
        toldApartIsNeeded();
        onlyTheFirst();
        laidStays();
        fullHouse();
        check.end();
    }

    private static void lays(String what, TouchMap map, int n, int unlike, int... textures) {
        check.due(what + ": lay(" + n + ")", map.lay(n), unlike);
        for (int a = 0; a < textures.length; a++) {
            check.due(what + ": texture(" + a + ")", map.texture(a), textures[a]);
        }
    }

    private static TouchMap allApart() {
        TouchMap map = new TouchMap();
        for (int t = 0; t < 5; t++) {
            for (int u = 0; u < t; u++) {
                check.due("apart", map.apart(t, u, true), true);
            }
        }
        return map;
    }

    private static void pairs() {
        TouchMap map = new TouchMap();
        int[][] wrong = {{-1, 0}, {0, -1}, {8, 0}, {0, 8}, {3, 3}};
        for (int[] p : wrong) {
            check.due("touch", map.touch(p[0], p[1], true), false);
            check.due("apart", map.apart(p[0], p[1], true), false);
        }
        check.due("apart(5, 0)", map.apart(5, 0, true), false);
        check.due("apart(0, 5)", map.apart(0, 5, true), false);
        check.due("touch(7, 0)", map.touch(7, 0, true), true);
        lays("touching, none apart", map, 8, -2);
        check.due("apart(4, 3)", map.apart(4, 3, true), true);
        lays("one pair apart", map, 8, 2, 3, 3, 3, 3, 3, 3, 3, 4);
        check.due("the other way round", map.apart(3, 4, false), true);
        lays("none apart again", map, 8, -2);
        check.due("the other way round", map.touch(0, 7, false), true);
        lays("none touch again", map, 8, 1, 0, 0, 0, 0, 0, 0, 0, 0);
    }

    private static void fewestTextures() {
        TouchMap map = allApart();
        lays("none touch", map, 4, 1, 0, 0, 0, 0);
        map.touch(0, 1, true);
        map.touch(1, 2, true);
        map.touch(2, 3, true);
        lays("a row", map, 4, 2, 0, 1, 0, 1);
        map.touch(3, 0, true);
        lays("a ring of four", map, 4, 2, 0, 1, 0, 1);
        map.touch(0, 2, true);
        lays("and one across", map, 4, 3, 0, 1, 2, 1);
        map.touch(1, 3, true);
        lays("all four", map, 4, 4, 0, 1, 2, 3);
    }

    private static void lesserTextures() {
        TouchMap map = new TouchMap();
        map.touch(0, 1, true);
        map.touch(1, 2, true);
        map.apart(0, 4, true);
        map.apart(1, 2, true);
        lays("0 with 4 ahead of 1 with 2", map, 3, 2, 0, 4, 0);
        map.apart(0, 3, true);
        lays("0 with 3", map, 3, 2, 0, 3, 0);
        lays("a free one", map, 4, 2, 0, 3, 0, 0);
        TouchMap other = new TouchMap();
        other.touch(1, 2, true);
        other.apart(2, 3, true);
        lays("fewest goes ahead of lesser", other, 3, 2, 2, 2, 3);
    }

    private static void toldApartIsNeeded() {
        TouchMap map = new TouchMap();
        map.touch(0, 1, true);
        map.touch(1, 2, true);
        map.touch(0, 2, true);
        map.apart(0, 1, true);
        map.apart(1, 2, true);
        map.apart(2, 3, true);
        map.apart(3, 4, true);
        map.apart(4, 0, true);
        lays("three areas, five textures in a ring", map, 3, -2);
        map.apart(4, 2, true);
        lays("a triangle of 2, 3, 4", map, 3, 3, 2, 3, 4);
        // a ring of five areas fits a ring of five textures, or a triangle
        TouchMap ring = new TouchMap();
        for (int i = 0; i < 5; i++) {
            ring.touch(i, (i + 1) % 5, true);
            ring.apart(i, (i + 1) % 5, true);
        }
        lays("ring on ring", ring, 5, 5, 0, 1, 2, 3, 4);
        ring.apart(2, 0, true);
        lays("ring on triangle", ring, 5, 3, 0, 1, 0, 1, 2);
    }

    private static void onlyTheFirst() {
        TouchMap map = new TouchMap();
        map.touch(6, 7, true);
        lays("the first seven", map, 7, 1, 0, 0, 0, 0, 0, 0, 0, TouchMap.NONE);
        lays("all", map, 8, -2);
        lays("none", map, 0, 0, TouchMap.NONE);
        check.due("lay(-1)", map.lay(-1), -1);
        check.due("lay(9)", map.lay(9), -1);
    }

    private static void laidStays() {
        TouchMap map = allApart();
        map.touch(0, 1, true);
        lays("two", map, 2, 2, 0, 1, TouchMap.NONE);
        map.touch(0, 1, false);
        check.due("as laid", map.texture(1), 1);
        check.due("lay(9)", map.lay(9), -1);
        check.due("as laid", map.texture(1), 1);
        for (int a = 0; a < 6; a++) {
            for (int b = 0; b < a; b++) {
                map.touch(a, b, true);
            }
        }
        lays("six that all touch", map, 6, -2, 0, 1, TouchMap.NONE);
        check.due("texture(-1)", map.texture(-1), TouchMap.NONE);
        check.due("texture(8)", map.texture(8), TouchMap.NONE);
    }

    private static void fullHouse() {
        TouchMap map = allApart();
        for (int a = 0; a < 5; a++) {
            for (int b = 0; b < a; b++) {
                map.touch(a, b, true);
            }
        }
        lays("five that all touch", map, 8, 5, 0, 1, 2, 3, 4, 0, 0, 0);
        for (int a = 0; a < 5; a++) {
            map.touch(7, a, true);
        }
        lays("a sixth", map, 8, -2, 0, 1, 2, 3, 4, 0, 0, 0);
        map.touch(7, 3, false);
        lays("a sixth like 3", map, 8, 5, 0, 1, 2, 3, 4, 0, 0, 3);
    }
}

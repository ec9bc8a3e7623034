/** Promises 17 and 18: set, spot. */
public final class SettingTest {
    private static final Check check = new Check();

    public static void main(String[] args) {
        boxesOfSpots();
        linesAndBorders();
        linesOfOnePlace();
        onlyKeptWays();
        namesApart();
        greatestSumThenMore();
        lesserSpots();
        contractionsMakeRoom();
        spotStays();
        wrongSpots();
        check.end();
    }

    private static void named(TouchMap map, int n, String word, int x, int y, int worth) {
        check.letters(map, word);
        check.due("name " + n, map.name(n, x, y, worth), word.length());
    }

    private static void sets(String what, TouchMap map, int sum, int... spots) {
        check.due(what + ": set()", map.set(), sum);
        for (int n = 0; n < spots.length; n++) {
            check.due(what + ": spot(" + n + ")", map.spot(n), spots[n]);
        }
    }

    /** Which spot is taken tells where each box begins and ends. */
    private static void boxesOfSpots() {
        int[][] places = {
            {378, 5, 0}, {379, 5, 1}, {378, 395, 0}, {378, 4, 2}, {378, 396, 3},
            {400, 5, 1}, {22, 5, 0}, {391, 386, 1}, {391, 4, 2}, {392, 4, 4}, {392, 396, 4}, {391, 396, 3},
            {9, 4, 2}, {8, 4, 4}, {8, 5, 0}, {200, 4, 2}, {200, 396, 3}, {200, 0, 2}, {200, 400, 3}, {0, 0, 4}
        };
        for (int[] place : places) {
            TouchMap map = new TouchMap();
            named(map, 0, "abc", place[0], place[1], 7);
            sets(place[0] + ", " + place[1], map, place[2] == 4 ? 0 : 7, place[2]);
        }
        TouchMap map = new TouchMap();
        named(map, 0, "abcdefghijkl", 40, 200, 7);
        sets("wide, at the left", map, 7, 0);
        named(map, 0, "abcdefghijkl", 360, 200, 7);
        sets("wide, at the right", map, 7, 1);
        named(map, 0, "abcdefghijkl", 364, 4, 7);
        sets("wide, in the corner", map, 7, 2);
        named(map, 0, "abcdefghijkl", 365, 4, 7);
        sets("wide, too far in the corner", map, 0, 4);
    }

    /** Name 0 is "a" at 100, 100: its boxes are 104..110 x 95..105, 90..96 x 95..105, 97..103 x 104..114, 97..103 x 86..96. */
    private static void linesAndBorders() {
        int[][] lines = {
            {104, 0, 104, 400, 0}, {105, 0, 105, 400, 1}, {109, 0, 109, 400, 1}, {110, 0, 110, 400, 0},
            {0, 95, 400, 95, 0}, {0, 105, 400, 105, 0}, {0, 96, 400, 96, 2}, {0, 104, 400, 104, 2},
            {110, 0, 110, 400, 0}, {107, 0, 107, 95, 0}, {107, 0, 107, 96, 1}, {107, 105, 107, 400, 0},
            {110, 100, 200, 100, 0}, {109, 100, 200, 100, 1}, {105, 100, 109, 101, 1}, {104, 100, 110, 100, 1},
            // past the corner 104, 105: just on it, and a little within
            {97, 98, 114, 115, 0}, {97, 97, 114, 114, 1}, {104, 95, 110, 105, 1}, {90, 105, 110, 95, 2},
            {99, 110, 101, 110, 0}
        };
        for (int[] l : lines) {
            TouchMap map = new TouchMap();
            named(map, 0, "a", 100, 100, 7);
            check.points(map, 0, 1, false, l[0], l[1], l[2], l[3]);
            check.due("keep", map.keep(), 1);
            sets("line " + l[0] + ", " + l[1] + ", " + l[2] + ", " + l[3], map, 7, l[4]);
        }
    }

    private static void linesOfOnePlace() {
        int[][] places = {{107, 100, 1}, {104, 100, 0}, {107, 95, 0}, {105, 96, 1}};
        for (int[] p : places) {
            TouchMap map = new TouchMap();
            named(map, 0, "a", 100, 100, 7);
            check.points(map, 0, 1, false, p[0], p[1], p[0] + 3, p[1] + 4, p[0], p[1]);
            check.due("simple", map.simple(0, 5), 2);
            check.due("keep", map.keep(), 1);
            sets("drawn as " + p[0] + ", " + p[1] + " alone", map, 7, p[2]);
        }
    }

    private static void onlyKeptWays() {
        TouchMap map = new TouchMap();
        named(map, 0, "a", 100, 100, 7);
        check.points(map, 0, 5, false, 107, 0, 107, 400);
        check.points(map, 1, 4, false, 93, 0, 93, 400);
        sets("ahead of any keep", map, 7, 0);
        map.gap(20);
        check.due("keep", map.keep(), 5);
        sets("way 0 alone is kept", map, 7, 1);
        map.gap(10);
        sets("as told last", map, 7, 1);
        check.due("keep", map.keep(), 9);
        sets("both", map, 7, 2);
        check.points(map, 2, 1, true, 0, 110, 90, 110);
        check.points(map, 3, 1, true, 0, 109, 90, 109);
        check.due("keep", map.keep(), -1);
        sets("those found before stay", map, 7, 2);
        map.way(0, 5, false);
        sets("a kept way without lines", map, 7, 0);
        check.points(map, 0, 5, false, 107, 100);
        sets("a kept point alone", map, 7, 0);
        map.point(0, 107, 300);
        map.point(0, 207, 300);
        sets("a kept way's lines as they are", map, 7, 2);
        check.points(map, 0, 5, false, 120, 100, 106, 100, 120, 99);
        sets("drawn by all", map, 7, 2);
        check.due("simple", map.simple(0, 14), 2);
        sets("drawn simple", map, 7, 0);
    }

    private static void namesApart() {
        TouchMap map = new TouchMap();
        named(map, 0, "a", 100, 100, 7);
        named(map, 1, "a", 106, 100, 7);
        sets("borders in common", map, 14, 0, 0);
        named(map, 1, "a", 105, 100, 7);
        sets("more than a border", map, 14, 0, 1);
        named(map, 1, "a", 100, 110, 7);
        sets("one above the other", map, 14, 0, 0);
        named(map, 1, "a", 100, 109, 7);
        sets("one above the other, too near", map, 14, 0, 1);
    }

    private static void greatestSumThenMore() {
        TouchMap map = new TouchMap();
        // each in its corner has one spot only, and these overlap
        named(map, 0, "a", 3, 0, 5);
        named(map, 1, "b", 5, 0, 6);
        sets("the worthier one", map, 6, 4, 2);
        named(map, 2, "c", 9, 0, 1);
        sets("two of them are worth as much", map, 6, 2, 4, 2);
        named(map, 2, "c", 11, 0, 1);
        sets("and one beside it", map, 7, 4, 2, 2);
        named(map, 0, "a", 6, 0, 6);
        named(map, 1, "b", 3, 0, 3);
        named(map, 2, "c", 9, 0, 3);
        sets("more names of equal sums", map, 6, 4, 2, 2);
        named(map, 3, "d", 200, 200, 0);
        sets("one of worth 0 too", map, 6, 4, 2, 2, 0);
    }

    private static void lesserSpots() {
        TouchMap map = new TouchMap();
        for (int n = 0; n < 8; n++) {
            named(map, n, "a", 100, 100, 10);
        }
        sets("all at a place", map, 40, 0, 1, 2, 3, 4, 4, 4, 4);
        named(map, 1, "a", 100, 100, 9);
        sets("one of less worth", map, 40, 0, 4, 1, 2, 3, 4, 4, 4);
        named(map, 7, "a", 100, 100, 11);
        sets("one of more worth", map, 41, 0, 4, 1, 2, 4, 4, 4, 3);
    }

    private static void contractionsMakeRoom() {
        TouchMap map = new TouchMap();
        named(map, 0, "abcd", 372, 200, 7);
        sets("four cells", map, 7, 0);
        named(map, 0, "abcd", 377, 200, 7);
        sets("four cells", map, 7, 1);
        check.letters(map, "ab");
        check.due("contract", map.contract(0, 9), true);
        sets("three cells", map, 7, 0);
        check.due("contract", map.contract(0, 0), true);
        sets("four again", map, 7, 1);
    }

    private static void spotStays() {
        TouchMap map = new TouchMap();
        named(map, 0, "a", 100, 100, 10);
        check.due("ahead of any", map.spot(0), TouchMap.NONE);
        sets("set", map, 10, 0, TouchMap.NONE);
        named(map, 1, "a", 300, 100, 10);
        check.due("it was none then", map.spot(1), TouchMap.NONE);
        check.due("erase", map.erase(0), true);
        check.due("as set", map.spot(0), 0);
        sets("set again", map, 10, TouchMap.NONE, 0);
    }

    private static void wrongSpots() {
        TouchMap map = new TouchMap();
        check.due("set", map.set(), 0);
        check.due("spot(-1)", map.spot(-1), TouchMap.NONE);
        check.due("spot(8)", map.spot(8), TouchMap.NONE);
        for (int n = 0; n < 8; n++) {
            check.due("spot", map.spot(n), TouchMap.NONE);
        }
    }
}

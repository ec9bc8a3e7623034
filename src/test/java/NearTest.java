/** Promises 7 to 9: gap, near, crossings. */
public final class NearTest {
    private static final Check check = new Check();

    public static void main(String[] args) {
        gaps();
        nearIsBelowGap();
        linesWithACommonEnd();
        nearSeesDrawnLines();
        nearIsExactAskew();
        crossings();
        wrongPairs();
        check.end();
    }

    private static void gaps() {
        TouchMap map = new TouchMap();
        check.due("at first", map.gap(0), 10);
        check.due("0", map.gap(100), 0);
        check.due("-1", map.gap(-1), TouchMap.NONE);
        check.due("101", map.gap(101), TouchMap.NONE);
        check.due("as it was", map.gap(10), 100);
    }

    private static void nearIsBelowGap() {
        TouchMap map = new TouchMap();
        check.points(map, 0, 1, false, 0, 0, 100, 0);
        check.points(map, 1, 1, false, 0, 10, 100, 10);
        check.due("distance 10, gap 10", map.near(0, 1), 0);
        map.gap(11);
        check.due("distance 10, gap 11", map.near(0, 1), 1);
        check.due("the other way round", map.near(1, 0), 1);
        map.gap(1);
        check.points(map, 2, 1, false, 50, 0, 50, 50);
        check.due("an end on the other", map.near(0, 2), 1);
        check.points(map, 3, 1, false, 20, 5, 30, 0, 40, 5);
        check.due("a corner on the other", map.near(0, 3), 1);
        map.gap(0);
        check.due("gap 0", map.near(0, 2), 0);
        check.due("gap 0, crossing", map.near(1, 2), 0);
        map.gap(1);
        check.due("crossing", map.near(1, 2), 1);
        check.points(map, 4, 1, false, 50, 5);
        check.due("a point alone", map.near(0, 4), 0);
        check.due("a point alone", map.near(4, 0), 0);
    }

    private static void linesWithACommonEnd() {
        TouchMap map = new TouchMap();
        check.points(map, 0, 1, false, 0, 0, 100, 0);
        check.points(map, 1, 1, false, 0, 0, 100, 1);
        check.due("common end", map.near(0, 1), 0);
        check.points(map, 2, 1, false, 50, 50, 100, 0);
        check.due("common end", map.near(0, 2), 0);
        check.points(map, 3, 1, false, 100, 0, 0, 0);
        check.due("the same line", map.near(0, 3), 0);
        check.points(map, 4, 1, false, 0, 0, 0, 9, 50, 9);
        check.due("the second line comes near", map.near(0, 4), 1);
        check.points(map, 4, 1, false, 0, 0, 0, 10, 50, 10);
        check.due("the second line does not", map.near(0, 4), 0);
    }

    private static void nearSeesDrawnLines() {
        TouchMap map = new TouchMap();
        check.points(map, 0, 1, false, 0, 0, 50, 20, 100, 0);
        check.points(map, 1, 1, false, 0, 25, 100, 25);
        check.due("by all", map.near(0, 1), 1);
        check.due("simple", map.simple(0, 20), 2);
        check.due("by two", map.near(0, 1), 0);
        check.points(map, 2, 1, false, 50, 10, 50, 30);
        check.due("crossed by two", map.crossings(0, 2), 0);
        check.points(map, 0, 1, false, 0, 0, 50, 20, 100, 0);
        check.due("met by all, at an end", map.crossings(0, 2), 0);
        check.points(map, 2, 1, false, 51, 10, 51, 30);
        check.due("crossed by all", map.crossings(0, 2), 1);
    }

    private static void nearIsExactAskew() {
        TouchMap map = new TouchMap();
        // 3 x + 4 y = 0 and a point just 5 off it
        check.points(map, 0, 1, false, 0, 90, 120, 0);
        check.points(map, 1, 1, false, 63, 49, 200, 200);
        map.gap(5);
        check.due("just 5", map.near(0, 1), 0);
        map.gap(6);
        check.due("below 6", map.near(0, 1), 1);
        check.points(map, 2, 1, false, 123, 4, 300, 300);
        map.gap(5);
        check.due("5 from the end", map.near(0, 2), 0);
        check.points(map, 2, 1, false, 123, 3, 300, 300);
        check.due("below 5 from the end", map.near(0, 2), 1);
    }

    private static void crossings() {
        TouchMap map = new TouchMap();
        check.points(map, 0, 1, false, 0, 50, 100, 50);
        check.points(map, 1, 1, false, 10, 0, 20, 100, 30, 0, 40, 100);
        check.due("three", map.crossings(0, 1), 3);
        check.due("three", map.crossings(1, 0), 3);
        check.points(map, 2, 1, false, 10, 0, 20, 50, 30, 0);
        check.due("ends touch", map.crossings(0, 2), 0);
        check.points(map, 3, 1, false, 50, 50, 150, 50);
        check.due("overlap", map.crossings(0, 3), 1);
        check.points(map, 3, 1, false, 100, 50, 150, 50);
        check.due("one behind the other", map.crossings(0, 3), 0);
        check.points(map, 3, 1, false, 101, 50, 150, 50);
        check.due("on one straight line, away", map.crossings(0, 3), 0);
        check.points(map, 3, 1, false, 100, 50, 0, 50);
        check.due("the same turned round", map.crossings(0, 3), 1);
        check.points(map, 3, 1, false, 0, 50, 10, 50);
        check.due("within, from a common end", map.crossings(0, 3), 1);
        check.points(map, 3, 1, false, 0, 51, 100, 51);
        check.due("beside", map.crossings(0, 3), 0);
        check.points(map, 4, 1, false, 50, 50);
        check.due("a point alone", map.crossings(0, 4), 0);
        check.points(map, 5, 1, false, 0, 0, 400, 399);
        check.points(map, 6, 1, false, 0, 1, 400, 398);
        check.due("a thin crossing", map.crossings(5, 6), 1);
    }

    private static void wrongPairs() {
        TouchMap map = new TouchMap();
        check.points(map, 0, 1, false, 0, 50, 100, 50);
        map.way(1, 1, false);
        int[][] pairs = {{0, 0}, {0, 1}, {1, 0}, {0, 2}, {2, 0}, {-1, 0}, {0, -1}, {12, 0}, {0, 12}, {2, 3}};
        for (int[] pair : pairs) {
            check.due("near of no such two", map.near(pair[0], pair[1]), TouchMap.NONE);
            check.due("crossings of no such two", map.crossings(pair[0], pair[1]), TouchMap.NONE);
        }
    }
}

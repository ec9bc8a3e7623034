/** Promises 10 and 11: keep, kept. */
public final class KeepTest {
    private static final Check check = new Check();

    public static void main(String[] args) {
        greatestSum();
        moreWaysOfEqualSums();
        leastNumberOfEquals();
        dangers();
        keptStays();
        wrongKept();
        check.end();
    }

    /** A level way at height y. */
    private static void level(TouchMap map, int w, int worth, boolean danger, int y) {
        check.points(map, w, worth, danger, 0, y, 100, y);
    }

    private static void keeps(String what, TouchMap map, String want) {
        for (int w = 0; w < 12; w++) {
            check.due(what + ": kept(" + w + ")", map.kept(w), w < want.length() ? want.charAt(w) - '0' : 0);
        }
    }

    private static void greatestSum() {
        TouchMap map = new TouchMap();
        level(map, 0, 3, false, 0);
        level(map, 1, 5, false, 5);
        level(map, 2, 3, false, 10);
        check.due("two outer ones", map.keep(), 6);
        keeps("two outer ones", map, "101");
        level(map, 1, 7, false, 5);
        check.due("the middle one", map.keep(), 7);
        keeps("the middle one", map, "010");
        map.gap(5);
        check.due("all", map.keep(), 13);
        keeps("all", map, "111");
        check.points(map, 11, 1000, false, 50, 5);
        map.way(10, 1000, false);
        check.due("a point alone, and a way without", map.keep(), 1013);
        keeps("a point alone, and a way without", map, "111000000001");
    }

    private static void moreWaysOfEqualSums() {
        TouchMap map = new TouchMap();
        level(map, 0, 6, false, 5);
        level(map, 1, 3, false, 0);
        level(map, 2, 3, false, 10);
        check.due("equal sums", map.keep(), 6);
        keeps("more ways", map, "011");
        level(map, 3, 0, false, 100);
        check.due("worth 0", map.keep(), 6);
        keeps("one of worth 0 too", map, "0111");
    }

    private static void leastNumberOfEquals() {
        TouchMap map = new TouchMap();
        level(map, 2, 4, false, 5);
        level(map, 5, 4, false, 0);
        check.due("equals", map.keep(), 4);
        keeps("the least number", map, "001");
        // a ring of four: {0, 3} and {1, 2} are alike in sum and number
        check.points(map, 0, 4, false, 200, 0, 200, 100);
        check.points(map, 3, 4, false, 300, 0, 300, 100);
        check.points(map, 1, 4, false, 150, 20, 350, 20);
        check.points(map, 4, 4, false, 150, 80, 350, 80);
        check.due("ring", map.keep(), 12);
        keeps("ring", map, "1011");
    }

    private static void dangers() {
        TouchMap map = new TouchMap();
        level(map, 0, 1000, false, 0);
        level(map, 1, 0, true, 5);
        level(map, 2, 1000, false, 10);
        check.due("a danger without worth", map.keep(), 0);
        keeps("a danger without worth", map, "01");
        level(map, 3, 7, true, 100);
        check.due("two dangers", map.keep(), 7);
        keeps("two dangers", map, "0101");
        level(map, 4, 9, true, 105);
        check.due("dangers too near", map.keep(), -1);
        keeps("those found before", map, "0101");
        map.way(4, 9, true);
        check.due("a danger without points is not there", map.keep(), 7);
        check.points(map, 4, 9, true, 50, 100);
        check.due("a danger of a point alone", map.keep(), 16);
        keeps("a danger of a point alone", map, "01011");
    }

    private static void keptStays() {
        TouchMap map = new TouchMap();
        level(map, 0, 5, true, 0);
        level(map, 1, 5, true, 5);
        check.due("none at first", map.keep(), -1);
        check.due("ahead of any that told some", map.kept(0), TouchMap.NONE);
        level(map, 1, 5, false, 5);
        check.due("some", map.keep(), 5);
        keeps("some", map, "1");
        map.way(0, 5, false);
        keeps("as told last", map, "1");
        check.due("again", map.keep(), 5);
        keeps("again", map, "01");
        level(map, 0, 5, false, 5);
        keeps("0 of one that was not there", map, "01");
    }

    private static void wrongKept() {
        TouchMap map = new TouchMap();
        check.due("ahead of any", map.kept(0), TouchMap.NONE);
        check.due("keep", map.keep(), 0);
        check.due("kept(-1)", map.kept(-1), TouchMap.NONE);
        check.due("kept(12)", map.kept(12), TouchMap.NONE);
        keeps("of none", map, "");
    }
}

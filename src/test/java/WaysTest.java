/** Promises 1 to 6: a new object, way, point, simple, drawn, turn. */
public final class WaysTest {
    private static final Check check = new Check();

    public static void main(String[] args) {
        newObject();
        ways();
        points();
        simpleTakesTheFewest();
        simpleTakesTheFarther();
        simpleIsExact();
        simpleMeasuresToTheEnds();
        simpleStartsFromAllPoints();
        simpleOfAWayThatComesBack();
        wrongSimple();
        drawn();
        turns();
        check.end();
    }

    private static void newObject() {
        TouchMap map = new TouchMap();
        for (int w = 0; w < 12; w++) {
            check.due("point of a new way", map.point(w, 0, 0), TouchMap.NONE);
            check.due("simple of a new way", map.simple(w, 0), TouchMap.NONE);
            check.due("kept of a new object", map.kept(w), TouchMap.NONE);
        }
        for (int n = 0; n < 8; n++) {
            check.due("erase of a new object", map.erase(n), false);
            check.due("cell of a new object", map.cell(n, 0), TouchMap.NONE);
            check.due("spot of a new object", map.spot(n), TouchMap.NONE);
            check.due("texture of a new object", map.texture(n), TouchMap.NONE);
        }
        check.due("lay of a new object", map.lay(8), 1);
        check.due("keep of a new object", map.keep(), 0);
        check.due("set of a new object", map.set(), 0);
        check.due("gap of a new object", map.gap(10), 10);
        check.letters(map, "abcdefghijkl");
        check.due("a new object has no contractions", map.name(0, 0, 0, 0), 12);
    }

    private static void ways() {
        TouchMap map = new TouchMap();
        check.due("way(0, 0)", map.way(0, 0, false), true);
        check.due("way(11, 1000)", map.way(11, 1000, true), true);
        check.due("way(-1)", map.way(-1, 5, false), false);
        check.due("way(12)", map.way(12, 5, false), false);
        check.due("worth -1", map.way(1, -1, false), false);
        check.due("worth 1001", map.way(1, 1001, false), false);
        check.due("a refused way is not begun", map.point(1, 0, 0), TouchMap.NONE);
        check.points(map, 2, 5, false, 1, 1, 2, 2);
        check.due("a refused way stays", map.way(2, 1001, false), false);
        check.due("point behind", map.point(2, 3, 3), 3);
        check.due("begun anew", map.way(2, 5, false), true);
        check.due("drawn by none", map.drawn(2, 0), TouchMap.NONE);
        check.due("first point again", map.point(2, 3, 3), 1);
    }

    private static void points() {
        TouchMap map = new TouchMap();
        map.way(3, 1, false);
        check.due("x -1", map.point(3, -1, 0), TouchMap.NONE);
        check.due("x 401", map.point(3, 401, 0), TouchMap.NONE);
        check.due("y -1", map.point(3, 0, -1), TouchMap.NONE);
        check.due("y 401", map.point(3, 0, 401), TouchMap.NONE);
        check.due("w -1", map.point(-1, 0, 0), TouchMap.NONE);
        check.due("w 12", map.point(12, 0, 0), TouchMap.NONE);
        check.due("corner", map.point(3, 400, 400), 1);
        check.due("the one ahead", map.point(3, 400, 400), TouchMap.NONE);
        check.due("other corner", map.point(3, 0, 0), 2);
        check.due("a place from before", map.point(3, 400, 400), 3);
        for (int i = 4; i <= 20; i++) {
            check.due("point " + i, map.point(3, i, 0), i);
        }
        check.due("point 21", map.point(3, 0, 0), TouchMap.NONE);
        check.due("last", map.drawn(3, 19), 19);

        check.points(map, 4, 1, false, 0, 0, 5, 0, 10, 0);
        check.due("simple", map.simple(4, 0), 2);
        check.due("refused", map.point(4, 10, 0), TouchMap.NONE);
        check.due("a refused point leaves it simple", map.drawn(4, 1), 2);
        check.due("accepted", map.point(4, 15, 0), 4);
        check.due("drawn by all then", map.drawn(4, 1), 1);
        check.due("drawn by all then", map.drawn(4, 3), 3);
    }

    private static void simpleTakesTheFewest() {
        TouchMap map = new TouchMap();
        // going on as far as possible from 0, which is to 2, would need one point more than going to 1
        check.points(map, 3, 1, false, 0, 5, 10, 4, 20, 2, 30, 6, 40, 4);
        check.due("not as far as possible", map.simple(3, 2), 3);
        check.due("not as far as possible", map.drawn(3, 1), 1);
        check.points(map, 0, 1, false, 0, 0, 10, 0, 20, 3, 30, 0, 40, 0);
        check.due("by 3", map.simple(0, 3), 2);
        check.due("by 2", map.simple(0, 2), 3);
        check.due("middle", map.drawn(0, 1), 2);
        check.due("by 0", map.simple(0, 0), 5);
        check.points(map, 1, 1, false, 7, 7);
        check.due("a point alone", map.simple(1, 100), 1);
        check.due("a point alone", map.drawn(1, 0), 0);
        check.points(map, 2, 1, false, 0, 0, 400, 400);
        check.due("two points", map.simple(2, 100), 2);
    }

    private static void simpleTakesTheFarther() {
        TouchMap map = new TouchMap();
        // a corner cut: 1, 2 or 3 may be the kept one
        check.points(map, 0, 1, false, 0, 0, 99, 0, 100, 0, 100, 1, 100, 100);
        check.due("by 1", map.simple(0, 1), 3);
        check.due("farther one", map.drawn(0, 1), 3);
        check.due("by 0", map.simple(0, 0), 3);
        check.due("only one", map.drawn(0, 1), 2);
    }

    private static void simpleIsExact() {
        TouchMap map = new TouchMap();
        check.points(map, 0, 1, false, 0, 0, 4, 3, 8, 6);
        check.due("on it", map.simple(0, 0), 2);
        // distance just 5 of (1, 7) from the line along (4, -3)
        check.points(map, 1, 1, false, 0, 100, 43, 74, 80, 40);
        check.due("distance 5 or less", map.simple(1, 5), 2);
        check.points(map, 2, 1, false, 0, 100, 43, 74, 80, 39);
        check.due("distance above 5", map.simple(2, 5), 3);
        check.points(map, 3, 1, false, 0, 0, 200, 101, 400, 0);
        check.due("101 is above 100", map.simple(3, 100), 3);
        check.points(map, 3, 1, false, 0, 0, 200, 100, 400, 0);
        check.due("100 is within 100", map.simple(3, 100), 2);
        check.points(map, 4, 1, false, 0, 0, 399, 399, 400, 399);
        check.due("a hair's miss", map.simple(4, 0), 3);
    }

    private static void simpleMeasuresToTheEnds() {
        TouchMap map = new TouchMap();
        // the middle point is on the straight line, but beyond the end
        check.points(map, 0, 1, false, 10, 0, 40, 0, 30, 0);
        check.due("beyond by 10", map.simple(0, 9), 3);
        check.due("beyond by 10", map.simple(0, 10), 2);
        check.points(map, 1, 1, false, 10, 0, 3, 0, 30, 0);
        check.due("ahead by 7", map.simple(1, 6), 3);
        check.due("ahead by 7", map.simple(1, 7), 2);
        check.points(map, 2, 1, false, 10, 10, 7, 6, 30, 10);
        check.due("ahead by 5, askew", map.simple(2, 4), 3);
        check.due("ahead by 5, askew", map.simple(2, 5), 2);
        check.points(map, 3, 1, false, 10, 10, 9, 15, 11, 10);
        check.due("5 off the straight line, but more off the end", map.simple(3, 5), 3);
        check.points(map, 3, 1, false, 10, 10, 10, 15, 11, 10);
        check.due("5 off the end", map.simple(3, 5), 2);
    }

    private static void simpleStartsFromAllPoints() {
        TouchMap map = new TouchMap();
        check.points(map, 0, 1, false, 0, 0, 10, 1, 20, 0);
        check.due("by 1", map.simple(0, 1), 2);
        check.due("by 0", map.simple(0, 0), 3);
        check.due("number 1 is back", map.drawn(0, 1), 1);
    }

    private static void simpleOfAWayThatComesBack() {
        TouchMap map = new TouchMap();
        check.points(map, 0, 1, false, 50, 50, 53, 54, 50, 50);
        check.due("by 4", map.simple(0, 4), 3);
        check.due("by 5", map.simple(0, 5), 2);
        check.points(map, 1, 1, false, 0, 50, 100, 50);
        check.due("a line of one place crosses nothing", map.crossings(0, 1), 0);
        check.due("but it comes near", map.near(0, 1), 1);
        check.due("gap", map.gap(0), 10);
        check.due("but not below 0", map.near(0, 1), 0);
    }

    private static void wrongSimple() {
        TouchMap map = new TouchMap();
        check.points(map, 0, 1, false, 0, 0, 10, 1, 20, 0);
        check.due("by 1", map.simple(0, 1), 2);
        check.due("by -1", map.simple(0, -1), TouchMap.NONE);
        check.due("by 101", map.simple(0, 101), TouchMap.NONE);
        check.due("as before", map.drawn(0, 1), 2);
        check.due("w -1", map.simple(-1, 1), TouchMap.NONE);
        check.due("w 12", map.simple(12, 1), TouchMap.NONE);
        check.due("not begun", map.simple(1, 1), TouchMap.NONE);
        map.way(1, 1, false);
        check.due("without points", map.simple(1, 1), TouchMap.NONE);
    }

    private static void drawn() {
        TouchMap map = new TouchMap();
        check.points(map, 11, 1, false, 0, 0, 10, 1, 20, 0, 20, 50);
        for (int k = 0; k < 4; k++) {
            check.due("drawn by all", map.drawn(11, k), k);
        }
        check.due("k 4", map.drawn(11, 4), TouchMap.NONE);
        check.due("k -1", map.drawn(11, -1), TouchMap.NONE);
        check.due("w -1", map.drawn(-1, 0), TouchMap.NONE);
        check.due("w 12", map.drawn(12, 0), TouchMap.NONE);
        check.due("not begun", map.drawn(0, 0), TouchMap.NONE);
        check.due("simple", map.simple(11, 1), 3);
        check.due("first", map.drawn(11, 0), 0);
        check.due("second", map.drawn(11, 1), 2);
        check.due("last", map.drawn(11, 2), 3);
        check.due("none", map.drawn(11, 3), TouchMap.NONE);
    }

    private static void turns() {
        TouchMap map = new TouchMap();
        check.points(map, 0, 1, false, 0, 0, 10, 0, 10, 10, 20, 10, 30, 10, 20, 10);
        check.due("first end", map.turn(0, 0), -2);
        check.due("towards greater y", map.turn(0, 1), 1);
        check.due("back", map.turn(0, 2), -1);
        check.due("straight on", map.turn(0, 3), 0);
        check.due("right back", map.turn(0, 4), 0);
        check.due("last end", map.turn(0, 5), -2);
        check.due("k 6", map.turn(0, 6), -2);
        check.due("k -1", map.turn(0, -1), -2);
        check.due("w 12", map.turn(12, 1), -2);
        check.due("w -1", map.turn(-1, 1), -2);
        check.due("not begun", map.turn(1, 1), -2);
        check.points(map, 2, 1, false, 0, 0, 10, 1, 20, 0, 20, 50);
        check.due("by all", map.turn(2, 1), -1);
        check.due("simple", map.simple(2, 1), 3);
        check.due("by the drawn ones", map.turn(2, 1), 1);
        check.due("an end now", map.turn(2, 2), -2);
        check.points(map, 3, 1, false, 5, 5);
        check.due("alone", map.turn(3, 0), -2);
    }
}

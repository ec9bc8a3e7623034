/** The terms I, sentence by sentence: ways. */
final class TermsOfWays {
    private TermsOfWays() { }

    static void test(Sentences s) {
        waysAre0To11(s);
        worthsAre0To1000(s);
        dangerOrNot(s);
        upTo20Points(s);
        placesAre0To400(s);
        joinedToTheNext(s);
        drawnByAllAtFirst(s);
        linesJoinDrawnPoints(s);
        nearestPlaceOfTheLine(s);
        endsArePlacesToo(s);
        missAtMost(s);
        simpleHasFirstAndLast(s);
        leftOutIsWithinOfItsLine(s);
        simpleHasTheFewest(s);
        simpleGoesFarther(s);
        turnIsBetweenTwoOthers(s);
        turnIsASign(s);
        turnHasItsSide(s);
        twoLinesMakeThemNear(s);
        linesWithACommonEnd(s);
        distanceBelowGap(s);
        gapIs0To100(s);
        gapIs10AtFirst(s);
        distance0WithACommonPlace(s);
        aPointAloneHasNoLines(s);
        crossingsArePairsOfLines(s);
        crossingsAreNoEnds(s);
        keptAreNotTooNear(s);
        keptHasAllDangers(s);
        keptHasTheGreatestSum(s);
        keptHasMoreWays(s);
        keptHasTheLeastNumber(s);
        keptIsNoneOfNearDangers(s);
        withoutPointsIsNotThere(s);
    }

    /** A level way from 0, y to 100, y. */
    private static void level(Sentences s, TouchMap map, int w, int worth, boolean danger, int y) {
        s.points(map, w, worth, danger, 0, y, 100, y);
    }

    private static void keeps(Sentences s, TouchMap map, int sum, String kept) {
        s.due("keep()", map.keep(), sum);
        for (int w = 0; w < kept.length(); w++) {
            s.due("kept(" + w + ")", map.kept(w), kept.charAt(w) - '0');
        }
    }

    private static void simple(Sentences s, TouchMap map, int t, int... numbers) {
        s.due("simple(0, " + t + ")", map.simple(0, t), numbers.length);
        for (int k = 0; k < numbers.length; k++) {
            s.due("by " + t + " drawn(0, " + k + ")", map.drawn(0, k), numbers[k]);
        }
        s.due("by " + t + " no more drawn", map.drawn(0, numbers.length), TouchMap.NONE);
    }

    private static void waysAre0To11(Sentences s) {
        s.says("I. WAYS 0 .. 11");
        TouchMap map = new TouchMap();
        for (int w = 0; w <= 11; w++) {
            s.due("way(" + w + ")", map.way(w, 1 << Math.min(w, 9), false), true);
        }
        for (int w = 0; w <= 11; w++) {
            s.due("the first point of way " + w, map.point(w, 10 * w, 7), 1);
        }
        s.due("all twelve are kept", map.keep(), 511 + 3 * 512);
        for (int w : Sentences.beyond(0, 11)) {
            s.due("way(" + w + ")", map.way(w, 1, false), false);
        }
    }

    private static void worthsAre0To1000(Sentences s) {
        s.says("(each with a WORTH, 0 .. 1000,");
        TouchMap map = new TouchMap();
        s.points(map, 0, 0, false, 1, 1);
        s.due("a sum of 0", map.keep(), 0);
        s.points(map, 1, 1000, false, 2, 2);
        s.due("a sum of 1000", map.keep(), 1000);
        for (int worth : Sentences.beyond(0, 1000)) {
            s.due("worth " + worth, map.way(1, worth, false), false);
        }
        s.due("a sum of 1000 still", map.keep(), 1000);
        for (int w = 0; w < 12; w++) {
            s.points(map, w, 1000, false, w, w);
        }
        s.due("the greatest sum", map.keep(), 12000);
    }

    private static void dangerOrNot(Sentences s) {
        s.says("and whether it is a DANGER)");
        TouchMap map = new TouchMap();
        level(s, map, 0, 1, true, 0);
        level(s, map, 1, 2, false, 5);
        keeps(s, map, 1, "10");
        level(s, map, 0, 1, false, 0);
        keeps(s, map, 2, "01");
        level(s, map, 0, 1, true, 0);
        keeps(s, map, 1, "10");
    }

    private static void upTo20Points(Sentences s) {
        s.says("have up to 20 POINTS");
        TouchMap map = new TouchMap();
        map.way(0, 1, false);
        map.way(11, 1, false);
        for (int i = 1; i <= 20; i++) {
            s.due("point " + i, map.point(0, i, i % 2), i);
        }
        s.due("point 21", map.point(0, 30, 30), TouchMap.NONE);
        s.due("drawn by 20", map.drawn(0, 19), 19);
        s.due("not by 21", map.drawn(0, 20), TouchMap.NONE);
        for (int i = 1; i <= 20; i++) {
            s.due("point " + i + " of another", map.point(11, i, i % 2), i);
        }
    }

    private static void placesAre0To400(Sentences s) {
        s.says("(x, y: 0 .. 400),");
        TouchMap map = new TouchMap();
        s.points(map, 0, 1, false, 0, 0, 400, 0, 400, 400, 0, 400, 0, 1, 1, 0, 399, 400);
        for (int at : Sentences.beyond(0, 400)) {
            s.due("x " + at, map.point(0, at, 200), TouchMap.NONE);
            s.due("y " + at, map.point(0, 200, at), TouchMap.NONE);
            s.due("both " + at, map.point(0, at, at), TouchMap.NONE);
        }
        s.due("the next one", map.point(0, 200, 200), 8);
    }

    private static void joinedToTheNext(Sentences s) {
        s.says("each joined to the next one by a LINE.");
        TouchMap map = new TouchMap();
        s.points(map, 0, 1, false, 0, 50, 100, 150, 200, 50);
        s.points(map, 1, 1, false, 0, 100, 200, 100);
        s.due("two lines of three points", map.crossings(0, 1), 2);
        s.points(map, 2, 1, false, 100, 40, 100, 60);
        s.due("the last one is not joined to the first", map.crossings(0, 2), 0);
        map.way(3, 1, false);
        for (int i = 0; i < 20; i++) {
            map.point(3, 10 * i, i % 2 * 100);
        }
        s.points(map, 4, 1, false, 0, 50, 400, 50);
        s.due("19 lines of 20 points", map.crossings(3, 4), 19);
    }

    private static void drawnByAllAtFirst(Sentences s) {
        s.says("A WAY is DRAWN by some of its POINTS: by all, until simple() tells others;");
        TouchMap map = new TouchMap();
        s.points(map, 0, 1, false, 0, 0, 10, 0, 20, 0);
        for (int k = 0; k < 3; k++) {
            s.due("at first drawn(0, " + k + ")", map.drawn(0, k), k);
        }
        simple(s, map, 0, 0, 2);
    }

    private static void linesJoinDrawnPoints(Sentences s) {
        s.says("its LINES then join these.");
        TouchMap map = new TouchMap();
        s.points(map, 0, 1, false, 0, 0, 50, 40, 100, 0);
        s.points(map, 1, 1, false, 45, 5, 55, 5);
        s.due("between its lines, far from both", map.near(0, 1), 0);
        s.points(map, 2, 1, false, 60, 10, 60, 50);
        s.due("over the second line", map.crossings(0, 2), 1);
        simple(s, map, 40, 0, 2);
        s.due("5 above the line", map.near(0, 1), 1);
        s.due("above the line", map.crossings(0, 2), 0);
        map.gap(11);
        s.due("10 above the line", map.near(0, 2), 1);
        map.gap(10);
        s.due("just 10 above the line", map.near(0, 2), 0);
        linesOfPointsLeftOut(s);
    }

    /** A way up to 150, 100 and down again, then drawn by its first and last point alone. */
    private static void linesOfPointsLeftOut(Sentences s) {
        TouchMap map = new TouchMap();
        s.points(map, 0, 1, false, 0, 0, 100, 0, 150, 100, 200, 0, 300, 0);
        s.points(map, 1, 1, false, 160, 50, 200, 50);
        s.letters(map, "ab");
        s.due("name", map.name(0, 160, 70, 1), 2);
        s.due("on the way down", map.crossings(0, 1) + map.crossings(1, 0), 2);
        s.due("on the way down", map.near(0, 1) + map.near(1, 0), 2);
        s.due("way 1 goes", map.way(1, 1, false), true);
        s.due("keep()", map.keep(), 1);
        s.due("set()", map.set(), 1);
        s.due("the way down is in spot 0", map.spot(0), 1);
        s.points(map, 1, 1, false, 160, 50, 200, 50);
        simple(s, map, 100, 0, 4);
        s.due("no way down", map.crossings(0, 1) + map.crossings(1, 0), 0);
        s.due("no way down", map.near(0, 1) + map.near(1, 0), 0);
        s.due("keep()", map.keep(), 2);
        s.due("set()", map.set(), 1);
        s.due("nothing is in spot 0", map.spot(0), 0);
    }

    private static void nearestPlaceOfTheLine(Sentences s) {
        s.says("A POINT is within a miss t of a LINE, if its distance to the nearest place of that");
        TouchMap map = new TouchMap();
        // (80, 60) is on the line, (-3, 4) at a right angle to it and 5 long: the ends are far
        s.points(map, 0, 1, false, 0, 0, 77, 64, 400, 300);
        simple(s, map, 4, 0, 1, 2);
        simple(s, map, 5, 0, 2);
        s.points(map, 0, 1, false, 400, 300, 83, 56, 0, 0);
        simple(s, map, 4, 0, 1, 2);
        simple(s, map, 5, 0, 2);
        s.points(map, 0, 1, false, 0, 0, 20, 140, 400, 300);
        simple(s, map, 99, 0, 1, 2);
        simple(s, map, 100, 0, 2);
    }

    private static void endsArePlacesToo(Sentences s) {
        s.says("(its ends are places, too)");
        TouchMap map = new TouchMap();
        s.points(map, 0, 1, false, 10, 0, 40, 0, 30, 0);
        simple(s, map, 9, 0, 1, 2);
        simple(s, map, 10, 0, 2);
        s.points(map, 0, 1, false, 100, 100, 203, 104, 200, 100);
        simple(s, map, 4, 0, 1, 2);
        simple(s, map, 5, 0, 2);
        s.points(map, 0, 1, false, 100, 100, 97, 96, 200, 100);
        simple(s, map, 4, 0, 1, 2);
        simple(s, map, 5, 0, 2);
        s.points(map, 0, 1, false, 100, 100, 97, 96, 200, 150);
        simple(s, map, 4, 0, 1, 2);
        simple(s, map, 5, 0, 2);
        s.points(map, 0, 1, false, 100, 100, 203, 154, 200, 150);
        simple(s, map, 4, 0, 1, 2);
        simple(s, map, 5, 0, 2);
        // both ends at one place
        s.points(map, 0, 1, false, 50, 50, 53, 54, 50, 50);
        simple(s, map, 4, 0, 1, 2);
        simple(s, map, 5, 0, 2);
        // just beside an end
        s.points(map, 0, 1, false, 50, 50, 50, 58, 60, 50);
        simple(s, map, 7, 0, 1, 2);
        simple(s, map, 8, 0, 2);
    }

    private static void missAtMost(Sentences s) {
        s.says("is t at most.");
        for (int t = 0; t <= 100; t += 10) {
            TouchMap map = new TouchMap();
            s.points(map, 0, 1, false, 0, 0, 200, t, 400, 0);
            simple(s, map, t, 0, 2);
            s.points(map, 0, 1, false, 0, 0, 200, t + 1, 400, 0);
            simple(s, map, t, 0, 1, 2);
        }
        TouchMap map = new TouchMap();
        // off by 1, 400 and 401, each divided by the root of 160001, which is a little more than 400
        s.points(map, 0, 1, false, 0, 0, 399, 1, 400, 1);
        simple(s, map, 0, 0, 1, 2);
        simple(s, map, 1, 0, 2);
        s.points(map, 0, 1, false, 0, 0, 0, 1, 400, 1);
        simple(s, map, 0, 0, 1, 2);
        simple(s, map, 1, 0, 2);
        s.points(map, 0, 1, false, 0, 0, 399, 2, 400, 1);
        simple(s, map, 1, 0, 1, 2);
        simple(s, map, 2, 0, 2);
        s.points(map, 0, 1, false, 0, 0, 200, 200, 400, 400);
        simple(s, map, 0, 0, 2);
    }

    private static void simpleHasFirstAndLast(Sentences s) {
        s.says("SIMPLE by t: the first and the last POINT,");
        TouchMap map = new TouchMap();
        s.points(map, 0, 1, false, 7, 7);
        simple(s, map, 0, 0);
        simple(s, map, 100, 0);
        s.points(map, 0, 1, false, 7, 7, 8, 7);
        simple(s, map, 100, 0, 1);
        s.points(map, 0, 1, false, 7, 7, 8, 7, 7, 7);
        simple(s, map, 100, 0, 2);
        map.way(0, 1, false);
        for (int i = 0; i < 20; i++) {
            map.point(0, i, i);
        }
        simple(s, map, 0, 0, 19);
        simple(s, map, 100, 0, 19);
    }

    private static void leftOutIsWithinOfItsLine(Sentences s) {
        s.says("and others so that each POINT left out is within t of the LINE that joins the two kept ones"
            + " between which it stands;");
        TouchMap map = new TouchMap();
        // point 1 is on the line from 3 to 4, where it does not stand
        s.points(map, 0, 1, false, 0, 0, 50, 100, 100, 0, 0, 100, 100, 100);
        simple(s, map, 10, 0, 1, 2, 3, 4);
        // the first, the middle and the last one left out each count
        s.points(map, 0, 1, false, 0, 0, 10, 9, 50, 0, 90, 0, 100, 0);
        simple(s, map, 8, 0, 1, 4);
        simple(s, map, 9, 0, 4);
        s.points(map, 0, 1, false, 0, 0, 10, 0, 50, 9, 90, 0, 100, 0);
        simple(s, map, 8, 0, 2, 4);
        simple(s, map, 9, 0, 4);
        s.points(map, 0, 1, false, 0, 0, 10, 0, 50, 0, 90, 9, 100, 0);
        simple(s, map, 8, 0, 3, 4);
        simple(s, map, 9, 0, 4);
    }

    private static void simpleHasTheFewest(Sentences s) {
        s.says("the fewest POINTS;");
        TouchMap map = new TouchMap();
        // from 0 one may go on to 2, and 2 is the farthest off the line from 0 to 4: both would need four points
        s.points(map, 0, 1, false, 0, 5, 10, 4, 20, 2, 30, 6, 40, 4);
        simple(s, map, 2, 0, 1, 4);
        map.way(0, 1, false);
        for (int i = 0; i < 20; i++) {
            map.point(0, 20 * i, i % 2 * 400);
        }
        s.due("none of 20 can be left out", map.simple(0, 0), 20);
        s.due("nor with a miss of 9", map.simple(0, 9), 20);
    }

    private static void simpleGoesFarther(Sentences s) {
        s.says("of several the one whose kept POINT is farther on where two first differ.");
        TouchMap map = new TouchMap();
        // 1, 2 and 3 would do
        s.points(map, 0, 1, false, 0, 0, 99, 0, 100, 0, 100, 1, 100, 100);
        simple(s, map, 1, 0, 3, 4);
        // 1 and 5 would do as well, but differ from it at 1 first
        s.points(map, 0, 1, false, 0, 25, 20, 20, 40, 15, 60, 15, 80, 15, 100, 10, 120, 5);
        simple(s, map, 3, 0, 2, 4, 6);
    }

    private static void turnIsBetweenTwoOthers(Sentences s) {
        s.says("A TURN at a DRAWN POINT between two others:");
        TouchMap map = new TouchMap();
        s.points(map, 0, 1, false, 0, 0, 10, 1, 20, 0, 20, 50);
        s.due("at 1", map.turn(0, 1), -1);
        s.due("at 2", map.turn(0, 2), 1);
        simple(s, map, 1, 0, 2, 3);
        s.due("at 2, which is the only one between two now", map.turn(0, 1), 1);
        s.due("at 3, which is the last", map.turn(0, 2), -2);
        s.points(map, 1, 1, false, 0, 0, 10, 1);
        s.due("none between two", map.turn(1, 0), -2);
        s.due("none between two", map.turn(1, 1), -2);
        s.points(map, 2, 1, false, 0, 0);
        s.due("one alone", map.turn(2, 0), -2);
    }

    private static void turnIsASign(Sentences s) {
        s.says("the sign of (b - a) x (c - b), a, b, c being it and those beside it, in order");
        TouchMap map = new TouchMap();
        s.points(map, 0, 1, false, 0, 0, 400, 0, 400, 400, 0, 400);
        s.due("160000", map.turn(0, 1), 1);
        s.due("160000", map.turn(0, 2), 1);
        s.points(map, 1, 1, false, 0, 400, 400, 400, 400, 0, 0, 0);
        s.due("-160000", map.turn(1, 1), -1);
        s.due("-160000", map.turn(1, 2), -1);
        s.points(map, 2, 1, false, 0, 0, 200, 199, 399, 397);
        s.due("-1", map.turn(2, 1), -1);
        s.points(map, 2, 1, false, 0, 0, 199, 200, 397, 399);
        s.due("1", map.turn(2, 1), 1);
        s.points(map, 3, 1, false, 0, 0, 10, 10, 20, 20, 0, 0, 40, 40);
        s.due("straight on", map.turn(3, 1), 0);
        s.due("right back", map.turn(3, 2), 0);
        s.due("and on again", map.turn(3, 3), 0);
    }

    private static void turnHasItsSide(Sentences s) {
        s.says("(x: the first one's x times the other one's y, less the first one's y times the other one's x).");
        TouchMap map = new TouchMap();
        s.points(map, 0, 1, false, 10, 10, 20, 10, 20, 20, 10, 20, 10, 10);
        s.due("10 times 10 less 0", map.turn(0, 1), 1);
        s.due("0 less 10 times -10", map.turn(0, 2), 1);
        s.due("-10 times -10 less 0", map.turn(0, 3), 1);
        s.points(map, 1, 1, false, 10, 10, 10, 20, 20, 20, 20, 10, 10, 10);
        s.due("0 less 10 times 10", map.turn(1, 1), -1);
        s.due("10 times -10 less 0", map.turn(1, 2), -1);
        s.due("0 less -10 times -10", map.turn(1, 3), -1);
    }

    private static void twoLinesMakeThemNear(Sentences s) {
        s.says("TOO NEAR are two WAYS, if two LINES of theirs,");
        TouchMap map = new TouchMap();
        s.points(map, 0, 1, false, 0, 0, 50, 0, 100, 0, 100, 50);
        s.points(map, 1, 1, false, 400, 400, 300, 300, 200, 45, 105, 45);
        s.due("the last line of each", map.near(0, 1), 1);
        s.points(map, 1, 1, false, 105, 45, 200, 45, 300, 300, 400, 400);
        s.due("the last and the first", map.near(0, 1), 1);
        s.due("the first and the last", map.near(1, 0), 1);
        s.points(map, 1, 1, false, 400, 400, 300, 300, 200, 45, 110, 45);
        s.due("no two", map.near(0, 1), 0);
        // each end of each may be the nearest place
        int[][] ends = {{200, 105, 390, 300}, {390, 300, 200, 105}};
        for (int[] e : ends) {
            s.points(map, 2, 1, false, 150, 100, 350, 100);
            s.points(map, 3, 1, false, e);
            s.due("its end is 5 off", map.near(2, 3), 1);
            s.due("its end is 5 off", map.near(3, 2), 1);
            map.gap(5);
            s.due("no place is less than 5 off", map.near(2, 3), 0);
            s.due("no place is less than 5 off", map.near(3, 2), 0);
            map.gap(10);
        }
        // two lines of one way don't count
        s.points(map, 2, 1, false, 200, 0, 200, 50, 201, 0, 201, 50);
        s.due("each alone", map.near(0, 2), 0);
    }

    private static void linesWithACommonEnd(Sentences s) {
        s.says("no end of one being at the same place as one of the other,");
        int[][] ends = {{0, 0, 100, 1}, {100, 1, 0, 0}, {100, 0, 0, 1}, {0, 1, 100, 0}, {0, 0, 100, 0}, {100, 0, 0, 0},
            {0, 0, 50, 0}, {100, 0, 50, 0}, {0, 0, 300, 0}};
        for (int[] e : ends) {
            TouchMap map = new TouchMap();
            map.gap(100);
            s.points(map, 0, 1, false, 0, 0, 100, 0);
            s.points(map, 1, 1, false, e);
            s.due("near(0, 1)", map.near(0, 1), 0);
            s.due("near(1, 0)", map.near(1, 0), 0);
        }
        TouchMap map = new TouchMap();
        s.points(map, 0, 1, false, 0, 0, 100, 0);
        s.points(map, 1, 1, false, 0, 1, 100, 1);
        s.due("ends of alike x", map.near(0, 1), 1);
        s.points(map, 1, 1, false, 10, 0, 90, 0);
        s.due("a place in common, but no end", map.near(0, 1), 1);
        s.points(map, 1, 1, false, 0, 0, 0, 9, 50, 9);
        s.due("another line has no end in common", map.near(0, 1), 1);
        s.points(map, 1, 1, false, 0, 0, 0, 10, 50, 10);
        s.due("another line is far enough", map.near(0, 1), 0);
        // a line of one place, which is an end of the other, or is not
        s.points(map, 1, 1, false, 100, 0, 104, 3, 100, 0);
        s.due("simple", map.simple(1, 5), 2);
        s.due("one place at an end", map.near(0, 1), 0);
        s.points(map, 1, 1, false, 99, 0, 103, 3, 99, 0);
        s.due("simple", map.simple(1, 5), 2);
        s.due("one place beside an end", map.near(0, 1), 1);
    }

    private static void distanceBelowGap(Sentences s) {
        s.says("have a distance below GAP");
        for (int gap = 1; gap <= 100; gap += 33) {
            TouchMap map = new TouchMap();
            map.gap(gap);
            level(s, map, 0, 1, false, 0);
            level(s, map, 1, 1, false, gap);
            s.due("just the gap", map.near(0, 1), 0);
            s.points(map, 1, 1, false, 10, gap - 1, 90, gap - 1);
            s.due("1 below it", map.near(0, 1), 1);
        }
        TouchMap map = new TouchMap();
        // (60, 45) is on the line, (3, 4) at a right angle to it and 5 long
        s.points(map, 0, 1, false, 0, 90, 120, 0);
        s.points(map, 1, 1, false, 63, 49, 200, 200);
        map.gap(5);
        s.due("5 askew", map.near(0, 1), 0);
        map.gap(6);
        s.due("5 askew, below 6", map.near(0, 1), 1);
        s.due("5 askew, below 6", map.near(1, 0), 1);
        s.points(map, 1, 1, false, 123, 4, 300, 300);
        s.due("5 from end to end, below 6", map.near(0, 1), 1);
        map.gap(5);
        s.due("5 from end to end", map.near(0, 1), 0);
        s.points(map, 1, 1, false, 123, 3, 300, 300);
        s.due("a little below 5 from end to end", map.near(0, 1), 1);
        s.points(map, 1, 1, false, 124, 4, 300, 300);
        s.due("a little above 5 from end to end", map.near(0, 1), 0);
        // (-3, 4) is 5 long; what it goes along the line of way 0, times that line's length, is 1, 0 and -1
        s.points(map, 1, 1, false, 97, 104, 0, 200);
        s.points(map, 0, 1, false, 100, 100, 233, 200);
        s.due("a hair below 5, just behind the end", map.near(0, 1), 1);
        s.points(map, 0, 1, false, 100, 100, 232, 199);
        s.due("just 5, beside the end", map.near(0, 1), 0);
        s.points(map, 0, 1, false, 100, 100, 235, 201);
        s.due("just 5, ahead of the end", map.near(0, 1), 0);
        s.points(map, 0, 1, false, 233, 200, 100, 100);
        s.due("a hair below 5, just ahead of the last end", map.near(0, 1), 1);
        s.points(map, 0, 1, false, 235, 201, 100, 100);
        s.due("just 5, behind the last end", map.near(0, 1), 0);
    }

    private static void gapIs0To100(Sentences s) {
        s.says("(0 .. 100;");
        TouchMap map = new TouchMap();
        s.due("gap(0)", map.gap(0), 10);
        s.due("gap(100)", map.gap(100), 0);
        for (int g : Sentences.beyond(0, 100)) {
            s.due("gap(" + g + ")", map.gap(g), TouchMap.NONE);
        }
        s.due("gap(1)", map.gap(1), 100);
    }

    private static void gapIs10AtFirst(Sentences s) {
        s.says("10 at first;");
        TouchMap map = new TouchMap();
        level(s, map, 0, 1, false, 0);
        level(s, map, 1, 1, false, 10);
        s.due("10 apart", map.near(0, 1), 0);
        level(s, map, 1, 1, false, 9);
        s.due("9 apart", map.near(0, 1), 1);
        s.due("gap(10)", map.gap(10), 10);
    }

    private static void distance0WithACommonPlace(Sentences s) {
        s.says("0 between LINES that have a place in common;");
        int[][] others = {{50, 0, 50, 100}, {0, 0, 100, 100}, {50, 50, 50, 100}, {10, 50, 90, 50}, {50, 50, 350, 50},
            {0, 0, 51, 51}, {50, 0, 50, 50}, {1, 50, 50, 50}};
        for (int[] other : others) {
            TouchMap map = new TouchMap();
            s.points(map, 0, 1, false, 0, 50, 100, 50);
            s.points(map, 1, 1, false, other);
            map.gap(1);
            s.due("below 1", map.near(0, 1), 1);
            s.due("below 1", map.near(1, 0), 1);
            map.gap(0);
            s.due("not below 0", map.near(0, 1), 0);
            s.due("not below 0", map.near(1, 0), 0);
        }
        TouchMap map = new TouchMap();
        map.gap(1);
        s.points(map, 0, 1, false, 0, 50, 100, 50);
        s.points(map, 1, 1, false, 50, 51, 50, 100);
        s.due("a place less", map.near(0, 1), 0);
        s.points(map, 1, 1, false, 101, 50, 200, 50);
        s.due("a place less", map.near(0, 1), 0);
    }

    private static void aPointAloneHasNoLines(Sentences s) {
        s.says("a POINT alone has no LINES).");
        TouchMap map = new TouchMap();
        map.gap(100);
        level(s, map, 0, 1, false, 50);
        s.points(map, 1, 1, true, 50, 50);
        s.points(map, 2, 1, true, 50, 50);
        s.due("on a line", map.near(0, 1), 0);
        s.due("on a line", map.near(1, 0), 0);
        s.due("two at one place", map.near(1, 2), 0);
        s.due("no crossing", map.crossings(0, 1), 0);
        s.due("no crossing", map.crossings(1, 2), 0);
        keeps(s, map, 3, "111");
        s.due("a second point", map.point(1, 50, 60), 2);
        s.due("now it has one", map.near(0, 1), 1);
    }

    private static void crossingsArePairsOfLines(Sentences s) {
        s.says("CROSSINGS: pairs of LINES of theirs");
        TouchMap map = new TouchMap();
        s.points(map, 0, 1, false, 0, 50, 100, 50);
        s.points(map, 1, 1, false, 10, 60, 20, 60, 30, 60);
        s.due("none", map.crossings(0, 1), 0);
        s.points(map, 1, 1, false, 10, 0, 20, 100, 30, 0, 40, 100);
        s.due("three lines over one", map.crossings(0, 1), 3);
        map.way(2, 1, false);
        map.way(3, 1, false);
        for (int i = 0; i < 20; i++) {
            map.point(2, 100 + 10 * i, i % 2 * 400);
            map.point(3, i % 2 * 400, 100 + 10 * i);
        }
        s.due("all of 19 over all of 19", map.crossings(2, 3), 361);
        s.due("the other way round", map.crossings(3, 2), 361);
    }

    private static void crossingsAreNoEnds(Sentences s) {
        s.says("that have a place in common that is no end of either.");
        // the last of each row: how many
        int[][] others = {{50, 0, 50, 100, 1}, {50, 50, 50, 100, 0}, {50, 0, 50, 50, 0}, {50, 0, 50, 49, 0},
            {0, 0, 0, 100, 0}, {100, 0, 100, 100, 0}, {1, 0, 1, 100, 1}, {0, 50, 0, 100, 0}, {100, 50, 200, 50, 0},
            {99, 50, 200, 50, 1}, {101, 50, 200, 50, 0}, {0, 50, 100, 50, 1}, {100, 50, 0, 50, 1}, {0, 50, 1, 50, 1},
            {40, 50, 60, 50, 1}, {0, 51, 100, 51, 0}, {0, 0, 100, 100, 1}, {0, 49, 400, 52, 0}, {0, 49, 400, 54, 1},
            {0, 51, 100, 49, 1}, {300, 50, 400, 50, 0}, {50, 50, 60, 100, 0}, {60, 100, 50, 50, 0}, {50, 50, 40, 0, 0},
            {40, 0, 50, 50, 0}, {0, 50, 90, 60, 0}, {90, 60, 0, 50, 0}, {150, 0, 150, 100, 0}, {101, 0, 101, 100, 0}};
        for (int[] o : others) {
            TouchMap map = new TouchMap();
            s.points(map, 0, 1, false, 0, 50, 100, 50);
            s.points(map, 1, 1, false, o[0], o[1], o[2], o[3]);
            String line = o[0] + ", " + o[1] + " to " + o[2] + ", " + o[3];
            s.due(line, map.crossings(0, 1), o[4]);
            s.due(line + ", the other way round", map.crossings(1, 0), o[4]);
        }
        TouchMap map = new TouchMap();
        s.points(map, 0, 1, false, 0, 50, 100, 50);
        s.points(map, 1, 1, false, 50, 0, 50, 50, 50, 100);
        s.due("an end of two lines", map.crossings(0, 1), 0);
        s.points(map, 1, 1, false, 50, 50, 53, 54, 50, 50);
        s.due("simple", map.simple(1, 5), 2);
        s.due("a line of one place is all end", map.crossings(0, 1), 0);
        s.due("a line of one place is all end", map.crossings(1, 0), 0);
        int[][] askew = {{30, 30, 50, 40, 1}, {110, 70, 130, 80, 0}, {112, 71, 130, 80, 0}, {108, 69, 130, 80, 1},
            {0, 15, 10, 20, 0}, {0, 15, 12, 21, 1}, {30, 31, 50, 41, 0}, {30, 30, 50, 41, 0}, {30, 31, 50, 40, 0},
            {0, 15, 130, 80, 1}, {10, 20, 110, 70, 1}, {0, 15, 8, 19, 0}};
        for (int[] a : askew) {
            s.points(map, 0, 1, false, 10, 20, 110, 70);
            s.points(map, 1, 1, false, a[0], a[1], a[2], a[3]);
            s.due("askew, " + a[0] + ", " + a[1], map.crossings(0, 1), a[4]);
            s.due("askew, " + a[0] + ", " + a[1] + ", the other way round", map.crossings(1, 0), a[4]);
            s.points(map, 0, 1, false, 20, 10, 70, 110);
            s.points(map, 1, 1, false, a[3], a[2], a[1], a[0]);
            s.due("askew, mirrored and back, " + a[0] + ", " + a[1], map.crossings(0, 1), a[4]);
        }
        // each end is 1 to a side of the other line, times its length
        s.points(map, 0, 1, false, 0, 0, 201, 200);
        s.points(map, 1, 1, false, 1, 1, 200, 199);
        s.due("hardly over it", map.crossings(0, 1), 1);
        s.due("hardly over it", map.crossings(1, 0), 1);
        s.points(map, 1, 1, false, 200, 199, 1, 1);
        s.due("hardly over it, back", map.crossings(0, 1), 1);
        s.due("hardly over it, back", map.crossings(1, 0), 1);
    }

    private static void keptAreNotTooNear(Sentences s) {
        s.says("KEPT are WAYS no two of which are TOO NEAR,");
        TouchMap map = new TouchMap();
        level(s, map, 0, 1, false, 0);
        level(s, map, 11, 1, false, 10);
        keeps(s, map, 2, "100000000001");
        level(s, map, 11, 1, false, 9);
        keeps(s, map, 1, "100000000000");
        map.gap(9);
        keeps(s, map, 2, "100000000001");
        map.gap(0);
        level(s, map, 11, 1, false, 0);
        keeps(s, map, 2, "100000000001");
        map.gap(100);
        for (int w = 0; w < 12; w++) {
            s.points(map, w, w, false, 0, 9 * w, 100, 9 * w + 1);
        }
        // at most 99 apart: each alone
        keeps(s, map, 11, "000000000001");
        TouchMap other = new TouchMap();
        s.points(other, 0, 3, false, 200, 0, 200, 50, 201, 0, 201, 50);
        s.points(other, 1, 4, true, 300, 0, 300, 50, 301, 0, 301, 50);
        s.due("keep(): a way is not too near to itself", other.keep(), 7);
    }

    private static void keptHasAllDangers(Sentences s) {
        s.says("all DANGERS among them,");
        TouchMap map = new TouchMap();
        level(s, map, 0, 1000, false, 0);
        level(s, map, 1, 0, true, 5);
        level(s, map, 2, 1000, false, 10);
        keeps(s, map, 0, "010");
        for (int w = 0; w < 12; w++) {
            level(s, map, w, 0, true, 10 * w);
        }
        keeps(s, map, 0, "111111111111");
        level(s, map, 11, 1000, false, 109);
        keeps(s, map, 0, "111111111110");
        level(s, map, 11, 1000, false, 110);
        keeps(s, map, 1000, "111111111111");
    }

    private static void keptHasTheGreatestSum(Sentences s) {
        s.says("so that the sum of their WORTHS is greatest;");
        TouchMap map = new TouchMap();
        level(s, map, 0, 3, false, 0);
        level(s, map, 1, 5, false, 5);
        level(s, map, 2, 3, false, 10);
        keeps(s, map, 6, "101");
        level(s, map, 1, 7, false, 5);
        keeps(s, map, 7, "010");
        level(s, map, 3, 4, false, 15);
        keeps(s, map, 11, "0101");
        level(s, map, 0, 1000, false, 0);
        level(s, map, 1, 1000, false, 5);
        level(s, map, 2, 999, false, 10);
        level(s, map, 3, 998, false, 15);
        keeps(s, map, 1999, "1010");
    }

    private static void keptHasMoreWays(Sentences s) {
        s.says("of several with more WAYS;");
        TouchMap map = new TouchMap();
        level(s, map, 0, 6, false, 5);
        level(s, map, 1, 3, false, 0);
        level(s, map, 2, 3, false, 10);
        keeps(s, map, 6, "011");
        level(s, map, 3, 0, false, 100);
        keeps(s, map, 6, "0111");
        // one of worth 0 beside one of two
        level(s, map, 0, 6, false, 0);
        level(s, map, 1, 6, false, 5);
        level(s, map, 2, 0, false, 10);
        keeps(s, map, 6, "1011");
        level(s, map, 0, 6, false, 5);
        level(s, map, 1, 6, false, 0);
        keeps(s, map, 6, "0111");
    }

    private static void keptHasTheLeastNumber(Sentences s) {
        s.says("of these the one that keeps the WAY with the least number in which two differ.");
        TouchMap map = new TouchMap();
        level(s, map, 3, 4, false, 300);
        level(s, map, 7, 4, false, 305);
        keeps(s, map, 4, "00010000");
        // 0 and 5, or 1 and 2
        s.points(map, 0, 4, false, 200, 0, 200, 100);
        s.points(map, 5, 4, false, 300, 0, 300, 100);
        s.points(map, 1, 4, false, 150, 20, 350, 20);
        s.points(map, 2, 4, false, 150, 80, 350, 80);
        keeps(s, map, 12, "10010100");
        // 0 is with both, 1 decides
        TouchMap other = new TouchMap();
        level(s, other, 0, 4, false, 300);
        s.points(other, 1, 4, false, 200, 0, 200, 100);
        s.points(other, 4, 4, false, 300, 0, 300, 100);
        s.points(other, 2, 4, false, 150, 20, 350, 20);
        s.points(other, 3, 4, false, 150, 80, 350, 80);
        keeps(s, other, 12, "110010");
        // all are of no worth
        TouchMap third = new TouchMap();
        for (int w = 0; w < 12; w++) {
            s.points(third, w, 0, false, w, 9, 100 + w, 9);
        }
        keeps(s, third, 0, "100000000000");
    }

    private static void keptIsNoneOfNearDangers(Sentences s) {
        s.says("There is none, if two DANGERS are TOO NEAR.");
        TouchMap map = new TouchMap();
        level(s, map, 0, 1, true, 0);
        level(s, map, 11, 1, true, 9);
        level(s, map, 5, 1, false, 200);
        s.due("keep()", map.keep(), -1);
        s.due("kept(5)", map.kept(5), TouchMap.NONE);
        map.gap(9);
        keeps(s, map, 3, "100001000001");
        map.gap(10);
        s.due("keep()", map.keep(), -1);
        level(s, map, 11, 1, false, 9);
        keeps(s, map, 2, "100001000000");
        // a third one between, which is no danger, does not matter
        level(s, map, 11, 1, true, 10);
        level(s, map, 4, 1, false, 5);
        keeps(s, map, 3, "100001000001");
    }

    private static void withoutPointsIsNotThere(Sentences s) {
        s.says("(A WAY without POINTS is not there.)");
        TouchMap map = new TouchMap();
        s.due("begun", map.way(0, 7, false), true);
        s.due("a danger begun", map.way(1, 7, true), true);
        keeps(s, map, 0, "000000000000");
        s.due("near(0, 1)", map.near(0, 1), TouchMap.NONE);
        s.due("a point", map.point(0, 3, 3), 1);
        keeps(s, map, 7, "100000000000");
        s.due("a point", map.point(1, 3, 3), 1);
        keeps(s, map, 14, "110000000000");
        s.due("begun anew", map.way(0, 7, false), true);
        keeps(s, map, 7, "010000000000");
    }
}

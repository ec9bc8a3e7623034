/** The promises 1 to 11, sentence by sentence. */
final class PromisesOfWays {
    private PromisesOfWays() { }

    static void test(Sentences s) {
        noWaysAtFirst(s);
        noContractionsAtFirst(s);
        noNamesAtFirst(s);
        noAreasTouchAtFirst(s);
        wayBeginsAnew(s);
        wayCantBe(s);
        pointsAreCounted(s);
        pointRedrawsByAll(s);
        pointOfNoWay(s);
        pointCantBe(s);
        pointIsTheOneAhead(s);
        pointsAreFull(s);
        simpleTellsHowMany(s);
        simpleOfNoWay(s);
        simpleOfNoPoints(s);
        drawnTellsTheNumber(s);
        drawnOfNone(s);
        turnTellsASign(s);
        turnAtAnEnd(s);
        turnOfNone(s);
        gapTellsWhatItWas(s);
        gapCantBe(s);
        nearTells(s);
        nearOfNoTwo(s);
        crossingsTell(s);
        crossingsOfNoTwo(s);
        keepTellsTheSum(s);
        keepOfNone(s);
        keepOfNoneLeavesKept(s);
        keptIsAsToldLast(s);
        keptOfOneThatWasNotThere(s);
        keptOfNoWay(s);
        keptAheadOfKeep(s);
    }

    private static void level(Sentences s, TouchMap map, int w, int worth, boolean danger, int y) {
        s.points(map, w, worth, danger, 0, y, 100, y);
    }

    private static void noWaysAtFirst(Sentences s) {
        s.says(1, "No WAYS,");
        TouchMap used = Bench.full("ab");
        TouchMap map = new TouchMap();
        for (int w = 0; w < 12; w++) {
            s.due("point", map.point(w, 1, 1), TouchMap.NONE);
            s.due("simple", map.simple(w, 1), TouchMap.NONE);
            s.due("drawn", map.drawn(w, 0), TouchMap.NONE);
            s.due("turn", map.turn(w, 0), -2);
            s.due("near", map.near(w, 11 - w), TouchMap.NONE);
            s.due("crossings", map.crossings(w, 11 - w), TouchMap.NONE);
            s.due("kept", map.kept(w), TouchMap.NONE);
        }
        s.due("keep", map.keep(), 0);
        s.due("another object has its own", used.drawn(0, 0), 0);
    }

    private static void noContractionsAtFirst(Sentences s) {
        s.says(1, "CONTRACTIONS,");
        Bench.full("");
        TouchMap map = new TouchMap();
        s.letters(map, "thethethethe");
        s.due("a cell for each letter", map.name(0, 0, 0, 0), 12);
    }

    private static void noNamesAtFirst(Sentences s) {
        s.says(1, "NAMES;");
        Bench.full("ab");
        TouchMap map = new TouchMap();
        for (int n = 0; n < 8; n++) {
            s.due("cell", map.cell(n, 0), TouchMap.NONE);
            s.due("spot", map.spot(n), TouchMap.NONE);
            s.due("erase", map.erase(n), false);
        }
        s.due("set", map.set(), 0);
        s.due("an empty tape", map.name(0, 0, 0, 0), TouchMap.NONE);
        s.due("an empty tape", map.letter('a'), 1);
    }

    private static void noAreasTouchAtFirst(Sentences s) {
        s.says(1, "no AREAS touch.");
        Bench.full("");
        TouchMap map = new TouchMap();
        for (int a = 0; a < 8; a++) {
            s.due("texture", map.texture(a), TouchMap.NONE);
        }
        s.due("lay(8)", map.lay(8), 1);
        for (int a = 0; a < 8; a++) {
            s.due("texture", map.texture(a), 0);
        }
    }

    private static void wayBeginsAnew(Sentences s) {
        s.says(2, "WAY w begins anew, without POINTS: true;");
        TouchMap map = new TouchMap();
        s.points(map, 0, 5, true, 1, 1, 2, 2, 3, 3);
        s.points(map, 1, 3, false, 9, 9);
        s.due("keep()", map.keep(), 8);
        s.due("way(0)", map.way(0, 7, false), true);
        s.due("drawn", map.drawn(0, 0), TouchMap.NONE);
        s.due("simple", map.simple(0, 0), TouchMap.NONE);
        s.due("the other one stays", map.drawn(1, 0), 0);
        s.due("keep()", map.keep(), 3);
        s.due("the place of the last point before", map.point(0, 3, 3), 1);
        s.due("with the new worth", map.keep(), 10);
        for (int i = 2; i <= 20; i++) {
            s.due("point " + i, map.point(0, i, 0), i);
        }
        s.due("a full one begins anew", map.way(0, 7, false), true);
        s.due("point 1", map.point(0, 5, 5), 1);
        s.due("again and again", map.way(0, 7, false) && map.way(0, 7, false), true);
    }

    private static void wayCantBe(Sentences s) {
        s.says(2, "false when that can't be.");
        TouchMap map = Bench.full("ab");
        for (int w : Sentences.beyond(0, 11)) {
            s.due("way(" + w + ")", map.way(w, 5, true), false);
        }
        for (int worth : Sentences.beyond(0, 1000)) {
            s.due("worth " + worth, map.way(0, worth, true), false);
            s.due("worth " + worth + " of one that is not begun", map.way(4, worth, true), false);
        }
        s.due("it is not begun", map.point(4, 0, 0), TouchMap.NONE);
        s.asBefore(map, "ab");
    }

    private static void pointsAreCounted(Sentences s) {
        s.says(3, "A POINT more of a WAY");
        TouchMap map = new TouchMap();
        map.way(0, 1, false);
        map.way(1, 1, false);
        s.due("first", map.point(0, 5, 5), 1);
        s.due("second", map.point(0, 6, 5), 2);
        s.due("first of another", map.point(1, 6, 5), 1);
        s.due("third", map.point(0, 5, 5), 3);
    }

    private static void pointRedrawsByAll(Sentences s) {
        s.says(3, "(which is DRAWN by all of its POINTS then): how many;");
        TouchMap map = new TouchMap();
        s.points(map, 0, 1, false, 0, 0, 5, 0, 10, 0);
        s.points(map, 1, 1, false, 0, 50, 5, 50, 10, 50);
        s.due("simple(0)", map.simple(0, 0), 2);
        s.due("simple(1)", map.simple(1, 0), 2);
        s.due("a point more", map.point(0, 15, 0), 4);
        for (int k = 0; k < 4; k++) {
            s.due("drawn(0, " + k + ")", map.drawn(0, k), k);
        }
        s.due("the other one is as it was", map.drawn(1, 1), 2);
        s.due("simple again", map.simple(0, 0), 2);
        s.due("drawn(0, 1)", map.drawn(0, 1), 3);
        s.due("a point more, askew", map.point(0, 20, 30), 5);
        s.due("straight on as far as the old ones go", map.turn(0, 2), 0);
        s.due("and a turn there", map.turn(0, 3), 1);
        s.points(map, 2, 1, false, 18, 15, 18, 30);
        s.due("towards the place that was told", map.crossings(0, 2), 1);
    }

    private static void pointOfNoWay(Sentences s) {
        s.says(3, "NONE when there is none such (not begun),");
        TouchMap map = Bench.full("ab");
        for (int w : Sentences.beyond(0, 11)) {
            s.due("w " + w, map.point(w, 5, 5), TouchMap.NONE);
        }
        for (int w = 4; w < 12; w++) {
            s.due("w " + w + " is not begun", map.point(w, 5, 5), TouchMap.NONE);
        }
        s.asBefore(map, "ab");
        s.due("a begun one", map.point(3, 5, 5), 1);
    }

    private static void pointCantBe(Sentences s) {
        s.says(3, "it can't be,");
        TouchMap map = Bench.full("ab");
        for (int at : Sentences.beyond(0, 400)) {
            s.due("x " + at, map.point(0, at, 0), TouchMap.NONE);
            s.due("y " + at, map.point(0, 0, at), TouchMap.NONE);
            s.due("as the first point", map.point(3, at, 400), TouchMap.NONE);
        }
        s.asBefore(map, "ab");
    }

    private static void pointIsTheOneAhead(Sentences s) {
        s.says(3, "is the one ahead,");
        TouchMap map = Bench.full("ab");
        s.due("way 0, which is drawn simple", map.point(0, 30, 40), TouchMap.NONE);
        s.due("way 1", map.point(1, 100, 100), TouchMap.NONE);
        s.asBefore(map, "ab");
        map = Bench.full("ab");
        s.due("alike in x alone", map.point(0, 30, 41), 5);
        s.due("alike in y alone", map.point(0, 31, 41), 6);
        s.due("the same", map.point(0, 31, 41), TouchMap.NONE);
        s.due("the one but one ahead", map.point(0, 30, 41), 7);
        s.due("the first place", map.point(0, 0, 0), 8);
        s.due("the first place again", map.point(0, 0, 0), TouchMap.NONE);
        s.due("0, 0 as the first point", map.point(3, 0, 0), 1);
        s.due("0, 0 as the second", map.point(3, 0, 0), TouchMap.NONE);
    }

    private static void pointsAreFull(Sentences s) {
        s.says(3, "or there are 20.");
        TouchMap map = new TouchMap();
        map.way(2, 1, false);
        for (int i = 1; i <= 20; i++) {
            s.due("point " + i, map.point(2, 400 - i, 0), i);
        }
        s.due("point 21", map.point(2, 0, 0), TouchMap.NONE);
        s.due("simple", map.simple(2, 0), 2);
        s.due("point 21 of one that is drawn by two", map.point(2, 0, 0), TouchMap.NONE);
        s.due("it leaves it drawn by two", map.drawn(2, 1), 19);
        s.due("by two", map.drawn(2, 2), TouchMap.NONE);
        s.due("begun anew", map.way(2, 1, false), true);
        s.due("point 1", map.point(2, 0, 0), 1);
    }

    private static void simpleTellsHowMany(Sentences s) {
        s.says(4, "A WAY is DRAWN SIMPLE by t (0 .. 100): how many POINTS;");
        TouchMap map = new TouchMap();
        s.points(map, 11, 1, false, 0, 0, 50, 100, 100, 0, 150, 1, 200, 0);
        s.due("by 0", map.simple(11, 0), 5);
        s.due("by 1", map.simple(11, 1), 4);
        s.due("by 99", map.simple(11, 99), 3);
        s.due("drawn(11, 1)", map.drawn(11, 1), 1);
        s.due("by 100", map.simple(11, 100), 2);
        s.due("drawn(11, 1)", map.drawn(11, 1), 4);
        s.due("by 0, from all points again", map.simple(11, 0), 5);
        for (int k = 0; k < 5; k++) {
            s.due("drawn(11, " + k + ")", map.drawn(11, k), k);
        }
        TouchMap other = Bench.full("ab");
        for (int t : Sentences.beyond(0, 100)) {
            s.due("by " + t, other.simple(0, t), TouchMap.NONE);
        }
        s.asBefore(other, "ab");
    }

    private static void simpleOfNoWay(Sentences s) {
        s.says(4, "NONE when there is none such,");
        TouchMap map = Bench.full("ab");
        for (int w : Sentences.beyond(0, 11)) {
            s.due("w " + w, map.simple(w, 5), TouchMap.NONE);
        }
        for (int w = 4; w < 12; w++) {
            s.due("w " + w + " is not begun", map.simple(w, 5), TouchMap.NONE);
        }
        s.asBefore(map, "ab");
    }

    private static void simpleOfNoPoints(Sentences s) {
        s.says(4, "or it has none.");
        TouchMap map = new TouchMap();
        s.due("begun", map.way(0, 1, false), true);
        s.due("without points", map.simple(0, 5), TouchMap.NONE);
        s.due("a point", map.point(0, 5, 5), 1);
        s.due("with one", map.simple(0, 5), 1);
        s.due("begun anew", map.way(0, 1, false), true);
        s.due("without points again", map.simple(0, 5), TouchMap.NONE);
    }

    private static void drawnTellsTheNumber(Sentences s) {
        s.says(5, "The number of the k-th POINT by which a WAY is DRAWN;");
        TouchMap map = new TouchMap();
        map.way(11, 1, false);
        for (int i = 0; i < 20; i++) {
            s.due("point", map.point(11, 10 * i, i == 7 ? 50 : 0), i + 1);
        }
        for (int k = 0; k < 20; k++) {
            s.due("by all, " + k, map.drawn(11, k), k);
        }
        s.due("simple", map.simple(11, 0), 5);
        int[] numbers = {0, 6, 7, 8, 19};
        for (int k = 0; k < 5; k++) {
            s.due("simple, " + k, map.drawn(11, k), numbers[k]);
        }
    }

    private static void drawnOfNone(Sentences s) {
        s.says(5, "NONE when there is none such.");
        TouchMap map = Bench.full("ab");
        for (int w : Sentences.beyond(0, 11)) {
            s.due("w " + w, map.drawn(w, 0), TouchMap.NONE);
        }
        for (int k : Sentences.beyond(0, 2)) {
            s.due("way 0 is drawn by 3, k " + k, map.drawn(0, k), TouchMap.NONE);
        }
        for (int k : Sentences.beyond(0, 1)) {
            s.due("way 1 is drawn by 2, k " + k, map.drawn(1, k), TouchMap.NONE);
        }
        s.due("begun alone", map.drawn(3, 0), TouchMap.NONE);
        s.due("not begun", map.drawn(4, 0), TouchMap.NONE);
        TouchMap full = new TouchMap();
        full.way(0, 1, false);
        for (int i = 0; i < 20; i++) {
            full.point(0, i, i);
        }
        s.due("the last of 20", full.drawn(0, 19), 19);
        for (int k : Sentences.beyond(0, 19)) {
            s.due("drawn by 20, k " + k, full.drawn(0, k), TouchMap.NONE);
        }
    }

    private static void turnTellsASign(Sentences s) {
        s.says(6, "The TURN at it (1, 0, -1);");
        TouchMap map = new TouchMap();
        s.points(map, 0, 1, false, 0, 0, 100, 0, 100, 100, 200, 100, 300, 100);
        s.due("towards greater y", map.turn(0, 1), 1);
        s.due("back", map.turn(0, 2), -1);
        s.due("straight on", map.turn(0, 3), 0);
        s.due("simple", map.simple(0, 100), 2);
        s.due("not there any more", map.turn(0, 1), -2);
    }

    private static void turnAtAnEnd(Sentences s) {
        s.says(6, "-2 when it is at an end,");
        TouchMap map = new TouchMap();
        s.points(map, 0, 1, false, 5, 5);
        s.due("alone", map.turn(0, 0), -2);
        s.due("a point", map.point(0, 9, 5), 2);
        s.due("first of two", map.turn(0, 0), -2);
        s.due("last of two", map.turn(0, 1), -2);
        s.due("a point", map.point(0, 9, 9), 3);
        s.due("first of three", map.turn(0, 0), -2);
        s.due("no end any more", map.turn(0, 1), 1);
        s.due("last of three", map.turn(0, 2), -2);
        for (int i = 4; i <= 20; i++) {
            map.point(0, 9 + i, 9);
        }
        s.due("first of twenty", map.turn(0, 0), -2);
        s.due("last but one of twenty", map.turn(0, 18), 0);
        s.due("last of twenty", map.turn(0, 19), -2);
    }

    private static void turnOfNone(Sentences s) {
        s.says(6, "or there is none such.");
        TouchMap map = Bench.full("ab");
        for (int w : Sentences.beyond(0, 11)) {
            s.due("w " + w, map.turn(w, 1), -2);
        }
        s.due("it is drawn by 3", map.turn(0, 1), 1);
        for (int k : Sentences.beyond(0, 2)) {
            s.due("k " + k, map.turn(0, k), -2);
        }
        s.due("begun alone", map.turn(3, 0), -2);
        s.due("begun alone", map.turn(3, 1), -2);
        s.due("not begun", map.turn(4, 1), -2);
    }

    private static void gapTellsWhatItWas(Sentences s) {
        s.says(7, "GAP: what it was;");
        TouchMap map = new TouchMap();
        s.due("gap(0)", map.gap(0), 10);
        s.due("gap(0) again", map.gap(0), 0);
        s.due("gap(100)", map.gap(100), 0);
        s.due("gap(55)", map.gap(55), 100);
        s.due("gap(55) again", map.gap(55), 55);
    }

    private static void gapCantBe(Sentences s) {
        s.says(7, "NONE when it can't be.");
        TouchMap map = Bench.full("ab");
        for (int g : Sentences.beyond(0, 100)) {
            s.due("gap(" + g + ")", map.gap(g), TouchMap.NONE);
        }
        s.asBefore(map, "ab");
    }

    private static void nearTells(Sentences s) {
        s.says(8, "Whether two unlike WAYS are TOO NEAR: 1, 0;");
        TouchMap map = new TouchMap();
        level(s, map, 0, 1, false, 0);
        level(s, map, 11, 1, false, 9);
        s.due("near(0, 11)", map.near(0, 11), 1);
        s.due("near(11, 0)", map.near(11, 0), 1);
        level(s, map, 11, 1, false, 10);
        s.due("near(0, 11)", map.near(0, 11), 0);
        s.due("near(11, 0)", map.near(11, 0), 0);
        s.due("gap(11)", map.gap(11), 10);
        s.due("by the gap as it is", map.near(0, 11), 1);
    }

    private static void nearOfNoTwo(Sentences s) {
        s.says(8, "NONE when there are no such two with POINTS.");
        TouchMap map = Bench.full("ab");
        for (int w : Sentences.beyond(0, 11)) {
            s.due("near(0, " + w + ")", map.near(0, w), TouchMap.NONE);
            s.due("near(" + w + ", 0)", map.near(w, 0), TouchMap.NONE);
            s.due("near(" + w + ", itself)", map.near(w, w), TouchMap.NONE);
        }
        for (int w = 0; w < 12; w++) {
            s.due("near(" + w + ", itself)", map.near(w, w), TouchMap.NONE);
        }
        s.due("one without points", map.near(0, 3), TouchMap.NONE);
        s.due("one without points", map.near(3, 0), TouchMap.NONE);
        s.due("one not begun", map.near(0, 4), TouchMap.NONE);
        s.due("one not begun", map.near(4, 0), TouchMap.NONE);
        s.due("two not begun", map.near(4, 5), TouchMap.NONE);
        s.due("a point", map.point(3, 0, 0), 1);
        s.due("with a point", map.near(3, 0), 0);
    }

    private static void crossingsTell(Sentences s) {
        s.says(9, "CROSSINGS of two unlike WAYS;");
        TouchMap map = new TouchMap();
        level(s, map, 0, 1, false, 50);
        s.points(map, 11, 1, false, 10, 60, 20, 60, 20, 40, 30, 40, 30, 60);
        s.due("crossings(0, 11)", map.crossings(0, 11), 2);
        s.due("crossings(11, 0)", map.crossings(11, 0), 2);
        s.due("simple", map.simple(11, 20), 2);
        s.due("as they are drawn", map.crossings(0, 11), 0);
    }

    private static void crossingsOfNoTwo(Sentences s) {
        s.says(9, "NONE likewise.");
        TouchMap map = Bench.full("ab");
        for (int w : Sentences.beyond(0, 11)) {
            s.due("crossings(0, " + w + ")", map.crossings(0, w), TouchMap.NONE);
            s.due("crossings(" + w + ", 0)", map.crossings(w, 0), TouchMap.NONE);
            s.due("crossings(" + w + ", itself)", map.crossings(w, w), TouchMap.NONE);
        }
        for (int w = 0; w < 12; w++) {
            s.due("crossings(" + w + ", itself)", map.crossings(w, w), TouchMap.NONE);
        }
        s.due("one without points", map.crossings(0, 3), TouchMap.NONE);
        s.due("one without points", map.crossings(3, 0), TouchMap.NONE);
        s.due("one not begun", map.crossings(0, 4), TouchMap.NONE);
        s.due("one not begun", map.crossings(4, 0), TouchMap.NONE);
        s.due("two not begun", map.crossings(4, 5), TouchMap.NONE);
        s.due("a point", map.point(3, 0, 0), 1);
        s.due("with a point", map.crossings(3, 0), 0);
    }

    private static void keepTellsTheSum(Sentences s) {
        s.says(10, "KEPT are found: the sum of their WORTHS;");
        TouchMap map = new TouchMap();
        s.due("of none", map.keep(), 0);
        level(s, map, 0, 0, false, 0);
        s.due("of one without worth", map.keep(), 0);
        s.due("kept(0)", map.kept(0), 1);
        for (int w = 0; w < 12; w++) {
            level(s, map, w, 1000, w % 2 == 0, 20 * w);
        }
        s.due("of all", map.keep(), 12000);
        s.due("again", map.keep(), 12000);
    }

    private static void keepOfNone(Sentences s) {
        s.says(10, "-1 there is none");
        TouchMap map = new TouchMap();
        level(s, map, 0, 1000, true, 0);
        level(s, map, 1, 1000, true, 9);
        s.due("keep()", map.keep(), -1);
        s.due("keep() again", map.keep(), -1);
        level(s, map, 1, 1000, true, 10);
        s.due("keep()", map.keep(), 2000);
    }

    private static void keepOfNoneLeavesKept(Sentences s) {
        s.says(10, "(those found before stay).");
        TouchMap map = new TouchMap();
        level(s, map, 0, 3, true, 200);
        level(s, map, 1, 2, false, 205);
        level(s, map, 2, 2, false, 300);
        s.due("keep()", map.keep(), 5);
        level(s, map, 1, 2, true, 205);
        level(s, map, 3, 9, false, 100);
        s.due("keep()", map.keep(), -1);
        int[] kept = {1, 0, 1, 0};
        for (int w = 0; w < 4; w++) {
            s.due("kept(" + w + ")", map.kept(w), kept[w]);
        }
        s.letters(map, "a");
        s.due("name", map.name(0, 50, 200, 1), 1);
        s.due("set()", map.set(), 1);
        s.due("way 0 is kept still, right through spots 0 and 1", map.spot(0), 2);
    }

    private static void keptIsAsToldLast(Sentences s) {
        s.says(11, "Whether a WAY is among the KEPT (as keep() told last;");
        TouchMap map = new TouchMap();
        level(s, map, 0, 5, false, 0);
        level(s, map, 11, 4, false, 5);
        s.due("keep()", map.keep(), 5);
        s.due("kept(0)", map.kept(0), 1);
        s.due("kept(11)", map.kept(11), 0);
        s.due("gap(0)", map.gap(0), 10);
        s.due("kept(11), with another gap", map.kept(11), 0);
        s.due("way(0)", map.way(0, 0, false), true);
        s.due("kept(0), begun anew", map.kept(0), 1);
        level(s, map, 11, 1000, true, 5);
        s.due("kept(11), a danger now", map.kept(11), 0);
        s.due("keep()", map.keep(), 1000);
        s.due("kept(0)", map.kept(0), 0);
        s.due("kept(11)", map.kept(11), 1);
    }

    private static void keptOfOneThatWasNotThere(Sentences s) {
        s.says(11, "0 of one that was not there): 1, 0;");
        TouchMap map = new TouchMap();
        s.due("way(1)", map.way(1, 5, true), true);
        s.due("keep()", map.keep(), 0);
        for (int w = 0; w < 12; w++) {
            s.due("kept(" + w + ")", map.kept(w), 0);
        }
        level(s, map, 0, 5, false, 0);
        s.due("not there then", map.kept(0), 0);
        s.due("keep()", map.keep(), 5);
        s.due("there now", map.kept(0), 1);
        s.due("without points still", map.kept(1), 0);
    }

    private static void keptOfNoWay(Sentences s) {
        s.says(11, "NONE when w is not 0 .. 11,");
        TouchMap map = Bench.full("ab");
        for (int w : Sentences.beyond(0, 11)) {
            s.due("kept(" + w + ")", map.kept(w), TouchMap.NONE);
        }
        s.due("kept(0)", map.kept(0), 1);
        s.due("kept(11)", map.kept(11), 0);
    }

    private static void keptAheadOfKeep(Sentences s) {
        s.says(11, "or ahead of any keep() that told some.");
        TouchMap map = new TouchMap();
        level(s, map, 0, 5, true, 0);
        level(s, map, 1, 5, true, 5);
        for (int w = 0; w < 12; w++) {
            s.due("ahead of any", map.kept(w), TouchMap.NONE);
        }
        s.due("keep()", map.keep(), -1);
        for (int w = 0; w < 12; w++) {
            s.due("ahead of one that told some", map.kept(w), TouchMap.NONE);
        }
        level(s, map, 1, 5, true, 10);
        s.due("keep()", map.keep(), 10);
        s.due("kept(1)", map.kept(1), 1);
        s.due("kept(2)", map.kept(2), 0);
    }
}

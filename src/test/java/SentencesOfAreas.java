/** The terms III and the promises 19 to 22, sentence by sentence: areas. */
final class SentencesOfAreas {
    private SentencesOfAreas() { }

    static void test(Sentences s) {
        areasAre0To7(s);
        texturesAre0To4(s);
        noTwoApartAtFirst(s);
        touchingOnesDiffer(s);
        touchingOnesAreToldApart(s);
        onlyTheFirstAreas(s);
        asFewAsCanBe(s);
        lesserForTheLeastArea(s);
        touchOrNot(s);
        touchOfNone(s);
        apartOrNot(s);
        apartOfNone(s);
        layTellsHowMany(s);
        layCantBe(s);
        layOfNone(s);
        textureOfTheLatestLay(s);
        textureOfNone(s);
    }

    private static void lays(Sentences s, String what, TouchMap map, int n, int unlike, int... textures) {
        s.due(what + ": lay(" + n + ")", map.lay(n), unlike);
        for (int a = 0; a < textures.length; a++) {
            s.due(what + ": texture(" + a + ")", map.texture(a), textures[a]);
        }
    }

    private static TouchMap allApart(Sentences s) {
        TouchMap map = new TouchMap();
        for (int t = 0; t < 5; t++) {
            for (int u = 0; u < t; u++) {
                s.due("apart", map.apart(t, u, true), true);
            }
        }
        return map;
    }

    /** The first areas all touch one another. */
    private static void joinFirst(TouchMap map, int many) {
        for (int a = 0; a < many; a++) {
            for (int b = 0; b < a; b++) {
                map.touch(a, b, true);
            }
        }
    }

    private static void areasAre0To7(Sentences s) {
        s.says("III. AREAS 0 .. 7 may touch one another;");
        TouchMap map = new TouchMap();
        s.due("apart", map.apart(0, 1, true), true);
        s.due("touch(0, 7)", map.touch(0, 7, true), true);
        lays(s, "0 and 7", map, 8, 2, 0, 0, 0, 0, 0, 0, 0, 1);
        for (int a : Sentences.beyond(0, 7)) {
            s.due("touch(0, " + a + ")", map.touch(0, a, true), false);
            s.due("touch(" + a + ", 0)", map.touch(a, 0, true), false);
        }
        s.due("touch(7, 6)", map.touch(7, 6, true), true);
        lays(s, "and 6", map, 8, 2, 0, 0, 0, 0, 0, 0, 0, 1);
        s.due("touch(6, 0)", map.touch(6, 0, true), true);
        lays(s, "all three", map, 8, -2);
    }

    private static void texturesAre0To4(Sentences s) {
        s.says("TEXTURES 0 .. 4 are told apart, two by two, or not");
        for (int t = 0; t <= 4; t++) {
            for (int u = t + 1; u <= 4; u++) {
                TouchMap map = new TouchMap();
                s.due("touch", map.touch(0, 1, true), true);
                s.due("apart", map.apart(u, t, true), true);
                lays(s, t + " and " + u, map, 2, 2, t, u);
            }
        }
        TouchMap map = new TouchMap();
        for (int t : Sentences.beyond(0, 4)) {
            s.due("apart(0, " + t + ")", map.apart(0, t, true), false);
            s.due("apart(" + t + ", 0)", map.apart(t, 0, true), false);
        }
        // two by two: that 0 is told apart from 1, and 1 from 2, tells nothing of 0 and 2
        map.apart(0, 1, true);
        map.apart(1, 2, true);
        joinFirst(map, 3);
        lays(s, "three that touch", map, 3, -2);
        map.apart(0, 2, true);
        lays(s, "three that touch", map, 3, 3, 0, 1, 2);
    }

    private static void noTwoApartAtFirst(Sentences s) {
        s.says("(no two are, at first).");
        TouchMap map = new TouchMap();
        map.touch(0, 1, true);
        lays(s, "two that touch", map, 2, -2);
        lays(s, "one alone", map, 1, 1, 0);
    }

    private static void touchingOnesDiffer(Sentences s) {
        s.says("An AREA's TEXTURE differs from that of each one it touches,");
        TouchMap map = allApart(s);
        joinFirst(map, 5);
        lays(s, "five", map, 5, 5, 0, 1, 2, 3, 4);
        joinFirst(map, 6);
        lays(s, "six", map, 6, -2);
        map.touch(5, 2, false);
        lays(s, "six, two of which don't touch", map, 6, 5, 0, 1, 2, 3, 4, 2);
    }

    private static void touchingOnesAreToldApart(Sentences s) {
        s.says("and is told apart from it.");
        TouchMap map = new TouchMap();
        map.touch(0, 1, true);
        map.touch(1, 2, true);
        map.apart(2, 4, true);
        lays(s, "2 and 4 alone", map, 3, 2, 2, 4, 2);
        map.apart(0, 3, true);
        lays(s, "0 and 3, too", map, 3, 2, 0, 3, 0);
        map.apart(0, 3, false);
        lays(s, "2 and 4 alone again", map, 3, 2, 2, 4, 2);
        map.touch(0, 2, true);
        lays(s, "a third one", map, 3, -2);
    }

    private static void onlyTheFirstAreas(Sentences s) {
        s.says("THE TEXTURES of the first n AREAS:");
        TouchMap map = new TouchMap();
        map.apart(0, 1, true);
        map.touch(6, 7, true);
        lays(s, "seven", map, 7, 1, 0, 0, 0, 0, 0, 0, 0, TouchMap.NONE);
        lays(s, "eight", map, 8, 2, 0, 0, 0, 0, 0, 0, 0, 1);
        lays(s, "one", map, 1, 1, 0, TouchMap.NONE);
        lays(s, "none", map, 0, 0, TouchMap.NONE);
        // what touches one beyond n does not matter
        map.touch(0, 7, true);
        map.touch(0, 6, true);
        lays(s, "eight", map, 8, -2);
        lays(s, "seven", map, 7, 2, 0, 0, 0, 0, 0, 0, 1);
        lays(s, "six", map, 6, 1, 0, 0, 0, 0, 0, 0);
    }

    private static void asFewAsCanBe(Sentences s) {
        s.says("as few unlike ones as can be;");
        TouchMap map = allApart(s);
        lays(s, "none touch", map, 8, 1, 0, 0, 0, 0, 0, 0, 0, 0);
        for (int a = 0; a < 7; a++) {
            map.touch(a, a + 1, true);
        }
        lays(s, "a row", map, 8, 2, 0, 1, 0, 1, 0, 1, 0, 1);
        map.touch(0, 6, true);
        lays(s, "an odd ring", map, 8, 3, 0, 1, 0, 1, 0, 1, 2, 0);
        // 0 alone would be less, but its neighbours 2 and 3 would make three of it
        TouchMap other = new TouchMap();
        other.touch(1, 2, true);
        other.apart(2, 3, true);
        lays(s, "fewest goes ahead of lesser", other, 3, 2, 2, 2, 3);
    }

    private static void lesserForTheLeastArea(Sentences s) {
        s.says("of several with the lesser one for the least AREA in which two differ.");
        TouchMap map = new TouchMap();
        map.touch(0, 1, true);
        map.apart(0, 4, true);
        map.apart(1, 2, true);
        lays(s, "0 with 4 ahead of 1 with 2", map, 2, 2, 0, 4);
        map.apart(0, 3, true);
        lays(s, "0 with 3 ahead of 0 with 4", map, 2, 2, 0, 3);
        lays(s, "the others as little as they can", map, 8, 2, 0, 3, 0, 0, 0, 0, 0, 0);
        map.touch(2, 0, true);
        map.touch(3, 1, true);
        lays(s, "of the two that are used", map, 4, 2, 0, 3, 3, 0);
        // three are needed; 0 goes with 3 and 4, or 1 with 2 and 3
        TouchMap other = new TouchMap();
        joinFirst(other, 3);
        int[][] pairs = {{0, 3}, {3, 4}, {4, 0}, {1, 2}, {2, 3}, {3, 1}};
        for (int[] p : pairs) {
            other.apart(p[0], p[1], true);
        }
        lays(s, "three", other, 3, 3, 0, 3, 4);
        other.apart(4, 0, false);
        lays(s, "without 4 and 0", other, 3, 3, 1, 2, 3);
        // 0, 2, 3 or 0, 1, 4: alike in the first
        TouchMap third = new TouchMap();
        joinFirst(third, 3);
        int[][] more = {{0, 2}, {0, 3}, {2, 3}, {0, 1}, {0, 4}, {1, 4}};
        for (int[] p : more) {
            third.apart(p[0], p[1], true);
        }
        lays(s, "the second decides", third, 3, 3, 0, 1, 4);
    }

    private static void touchOrNot(Sentences s) {
        s.says(19, "Two unlike AREAS touch (or not): true;");
        TouchMap map = allApart(s);
        for (int a = 0; a < 8; a++) {
            for (int b = 0; b < 8; b++) {
                if (a != b) {
                    s.due("touch", map.touch(a, b, true), true);
                    s.due("both ways", map.lay(8), 2);
                    s.due("0 and " + a + " or " + b, map.texture(Math.max(a, b)), 1);
                    s.due("the other way round", map.touch(b, a, false), true);
                }
            }
        }
        s.due("none touch", map.lay(8), 1);
        s.due("twice", map.touch(3, 4, true) && map.touch(3, 4, true), true);
        s.due("once not", map.touch(3, 4, false), true);
        s.due("none touch", map.lay(8), 1);
        s.due("not what was not", map.touch(3, 4, false), true);
        for (int turned = 0; turned <= 1; turned++) {
            map.touch(0, 1, true);
            map.touch(0, 2, true);
            map.touch(1, 3, true);
            s.due("one pair no longer", map.touch(turned, 1 - turned, false), true);
            lays(s, "the other pairs stay", map, 4, 2, 0, 0, 1, 1);
        }
    }

    private static void touchOfNone(Sentences s) {
        s.says(19, "false when there are none such.");
        TouchMap map = Bench.full("ab");
        for (int a : Sentences.beyond(0, 7)) {
            for (int b : new int[] {0, 7, a}) {
                s.due("touch(" + a + ", " + b + ")", map.touch(a, b, true), false);
                s.due("touch(" + b + ", " + a + ")", map.touch(b, a, false), false);
            }
        }
        for (int a = 0; a < 8; a++) {
            s.due("touch(" + a + ", itself)", map.touch(a, a, true), false);
            s.due("touch(" + a + ", itself), not", map.touch(a, a, false), false);
        }
        s.asBefore(map, "ab");
    }

    private static void apartOrNot(Sentences s) {
        s.says(20, "Two unlike TEXTURES are told apart (or not): true;");
        TouchMap map = new TouchMap();
        map.touch(0, 1, true);
        for (int t = 0; t < 5; t++) {
            for (int u = 0; u < 5; u++) {
                if (t != u) {
                    s.due("apart", map.apart(t, u, true), true);
                    lays(s, t + ", " + u, map, 2, 2, Math.min(t, u), Math.max(t, u));
                    s.due("the other way round", map.apart(u, t, false), true);
                    s.due("not any more", map.lay(2), -2);
                }
            }
        }
        s.due("twice", map.apart(3, 4, true) && map.apart(3, 4, true), true);
        s.due("once not", map.apart(3, 4, false), true);
        s.due("not any more", map.lay(2), -2);
        s.due("not what was not", map.apart(3, 4, false), true);
        map.touch(1, 2, true);
        for (int turned = 0; turned <= 1; turned++) {
            // a row of textures 2, 0, 1, 3, and then without 0 and 1
            map.apart(0, 1, true);
            map.apart(0, 2, true);
            map.apart(1, 3, true);
            lays(s, "a row of three areas", map, 3, 2, 0, 1, 0);
            s.due("one pair no longer", map.apart(turned, 1 - turned, false), true);
            lays(s, "the other pairs stay", map, 3, 2, 0, 2, 0);
            s.due("one pair more", map.apart(0, 2, false), true);
            lays(s, "the last pair stays", map, 3, 2, 1, 3, 1);
        }
    }

    private static void apartOfNone(Sentences s) {
        s.says(20, "false when there are none such.");
        TouchMap map = Bench.full("ab");
        for (int t : Sentences.beyond(0, 4)) {
            for (int u : new int[] {0, 4, t}) {
                s.due("apart(" + t + ", " + u + ")", map.apart(t, u, true), false);
                s.due("apart(" + u + ", " + t + ")", map.apart(u, t, false), false);
            }
        }
        for (int t = 0; t < 5; t++) {
            s.due("apart(" + t + ", itself)", map.apart(t, t, true), false);
            s.due("apart(" + t + ", itself), not", map.apart(t, t, false), false);
        }
        s.asBefore(map, "ab");
        // a texture is not told apart from itself
        TouchMap other = new TouchMap();
        other.touch(0, 1, true);
        s.due("apart(0, 0)", other.apart(0, 0, true), false);
        s.due("lay(2)", other.lay(2), -2);
    }

    private static void layTellsHowMany(Sentences s) {
        s.says(21, "THE TEXTURES of the first n (0 .. 8) AREAS are found: how many unlike ones;");
        TouchMap map = allApart(s);
        joinFirst(map, 5);
        int[] unlike = {0, 1, 2, 3, 4, 5, 5, 5, 5};
        for (int n = 0; n <= 8; n++) {
            s.due("lay(" + n + ")", map.lay(n), unlike[n]);
        }
    }

    private static void layCantBe(Sentences s) {
        s.says(21, "-1 n can't be;");
        TouchMap map = Bench.full("ab");
        for (int n : Sentences.beyond(0, 8)) {
            s.due("lay(" + n + ")", map.lay(n), -1);
        }
        s.asBefore(map, "ab");
    }

    private static void layOfNone(Sentences s) {
        s.says(21, "-2 there are none.");
        TouchMap map = new TouchMap();
        map.touch(1, 2, true);
        s.due("lay(3)", map.lay(3), -2);
        s.due("lay(8)", map.lay(8), -2);
        s.due("lay(2)", map.lay(2), 1);
        TouchMap other = allApart(s);
        joinFirst(other, 8);
        for (int n = 6; n <= 8; n++) {
            s.due("all of " + n + " touch", other.lay(n), -2);
        }
        s.due("all of 5 touch", other.lay(5), 5);
    }

    private static void textureOfTheLatestLay(Sentences s) {
        s.says(22, "The TEXTURE of an AREA in the latest lay() that found some;");
        TouchMap map = allApart(s);
        s.due("ahead of any", map.texture(0), TouchMap.NONE);
        map.touch(0, 1, true);
        lays(s, "two", map, 2, 2, 0, 1, TouchMap.NONE);
        map.touch(0, 1, false);
        s.due("as it was found", map.texture(1), 1);
        s.due("lay(9)", map.lay(9), -1);
        s.due("as it was found", map.texture(1), 1);
        joinFirst(map, 6);
        lays(s, "six", map, 6, -2, 0, 1, TouchMap.NONE, TouchMap.NONE, TouchMap.NONE, TouchMap.NONE);
        lays(s, "three", map, 3, 3, 0, 1, 2, TouchMap.NONE);
        lays(s, "one", map, 1, 1, 0, TouchMap.NONE, TouchMap.NONE);
        lays(s, "none, which are found as well", map, 0, 0, TouchMap.NONE, TouchMap.NONE);
    }

    private static void textureOfNone(Sentences s) {
        s.says(22, "NONE when there is none such.");
        TouchMap map = new TouchMap();
        for (int a = 0; a < 8; a++) {
            s.due("ahead of any lay()", map.texture(a), TouchMap.NONE);
        }
        map.touch(0, 1, true);
        s.due("lay(2)", map.lay(2), -2);
        s.due("ahead of any that found some", map.texture(0), TouchMap.NONE);
        map.touch(0, 1, false);
        s.due("lay(8)", map.lay(8), 1);
        s.due("texture(7)", map.texture(7), 0);
        for (int a : Sentences.beyond(0, 7)) {
            s.due("texture(" + a + ")", map.texture(a), TouchMap.NONE);
        }
        s.due("lay(4)", map.lay(4), 1);
        for (int a : Sentences.beyond(0, 3)) {
            s.due("texture(" + a + ") of four", map.texture(a), TouchMap.NONE);
        }
        s.due("texture(3) of four", map.texture(3), 0);
    }
}

/** The terms II, sentence by sentence: cells and names. */
final class TermsOfDots {
    /** The boxes of a name of two cells at 100, 100, by spot: left, low, right, high. */
    private static final int[][] BOXES = {{104, 95, 116, 105}, {84, 95, 96, 105}, {94, 104, 106, 114}, {94, 86, 106, 96}};

    private TermsOfDots() { }

    static void test(Sentences s) {
        cellsOfLetters(s);
        contractionsAre0To9(s);
        contractionsAre2To4Letters(s);
        contractionsAreOneCell(s);
        wordsAre1To12Letters(s);
        partsFollowOneAnother(s);
        wordsHaveTheFewestCells(s);
        longerFirstPart(s);
        leastNumberOfAlike(s);
        namesAre0To7(s);
        worthsOfNames(s);
        boxesOfNames(s);
        spots(s);
        someNamesInSpots(s);
        allOfABox(s);
        boxesMayShareABorder(s);
        onlyKeptWaysCount(s);
        keptAsToldLast(s);
        withinABox(s);
        settingHasTheGreatestSum(s);
        settingHasMoreNames(s);
        settingHasLesserSpots(s);
    }

    private static void contract(Sentences s, TouchMap map, int k, String letters, int cell) {
        s.letters(map, letters);
        s.due("contract(" + k + ", " + cell + ") " + letters, map.contract(k, cell), true);
    }

    private static void spelled(Sentences s, TouchMap map, String word, int... cells) {
        s.letters(map, word);
        s.due("cells of " + word, map.name(7, 0, 0, 0), cells.length);
        for (int i = 0; i < cells.length; i++) {
            s.due("cell " + i + " of " + word, map.cell(7, i), cells[i]);
        }
        s.due("no more cells of " + word, map.cell(7, cells.length), TouchMap.NONE);
    }

    private static void named(Sentences s, TouchMap map, int n, String word, int x, int y, int worth) {
        s.letters(map, word);
        s.due("name " + n, map.name(n, x, y, worth), word.length());
    }

    private static void sets(Sentences s, String what, TouchMap map, int sum, int... spots) {
        s.due(what + ": set()", map.set(), sum);
        for (int n = 0; n < spots.length; n++) {
            s.due(what + ": spot(" + n + ")", map.spot(n), spots[n]);
        }
    }

    /** A short level line in the middle of each of the boxes ahead of a spot, as kept ways from w on. */
    private static void coverSpotsAhead(Sentences s, TouchMap map, int spot, int[][] boxes) {
        for (int b = 0; b < spot; b++) {
            int x = (boxes[b][0] + boxes[b][2]) / 2;
            int y = (boxes[b][1] + boxes[b][3]) / 2;
            s.points(map, b, 0, true, x - 1, y, x + 1, y);
        }
        map.gap(0);
        s.due("keep()", map.keep(), 0);
    }

    private static int[][] boxesAt(int x, int y, int cells) {
        int half = 3 * cells;
        return new int[][] {{x + 4, y - 5, x + 4 + 2 * half, y + 5}, {x - 4 - 2 * half, y - 5, x - 4, y + 5},
            {x - half, y + 4, x + half, y + 14}, {x - half, y - 14, x + half, y - 4}};
    }

    private static void cellsOfLetters(Sentences s) {
        s.says("II. CELLS are six dots as bits: a to z are 1, 3, 9, 25, 17, 11, 27, 19, 10, 26, 5, 7, 13, 29, 21, 15,"
            + " 31, 23, 14, 30, 37, 39, 58, 45, 61, 53.");
        TouchMap map = new TouchMap();
        spelled(s, map, "abcdefghijkl", 1, 3, 9, 25, 17, 11, 27, 19, 10, 26, 5, 7);
        spelled(s, map, "mnopqrstuvwx", 13, 29, 21, 15, 31, 23, 14, 30, 37, 39, 58, 45);
        spelled(s, map, "yz", 61, 53);
    }

    private static void contractionsAre0To9(Sentences s) {
        s.says("CONTRACTIONS 0 .. 9:");
        TouchMap map = new TouchMap();
        for (int k = 0; k <= 9; k++) {
            contract(s, map, k, "a" + (char) ('b' + k), 40 + k);
        }
        for (int k = 0; k <= 9; k++) {
            spelled(s, map, "a" + (char) ('b' + k), 40 + k);
        }
        for (int k : Sentences.beyond(0, 9)) {
            s.letters(map, "al");
            s.due("contract(" + k + ")", map.contract(k, 5), false);
        }
        spelled(s, map, "al", 1, 7);
    }

    private static void contractionsAre2To4Letters(Sentences s) {
        s.says("2 to 4 letters");
        String word = "abcdefghijkl";
        for (int length = 0; length <= 12; length++) {
            TouchMap map = new TouchMap();
            s.letters(map, word.substring(0, length));
            boolean can = length >= 2 && length <= 4;
            s.due(length + " letters", map.contract(0, 50), can);
            s.letters(map, word);
            s.due("cells", map.name(0, 0, 0, 0), can ? 13 - length : 12);
            s.due("first cell", map.cell(0, 0), can ? 50 : 1);
        }
    }

    private static void contractionsAreOneCell(Sentences s) {
        s.says("that are one CELL (1 .. 63).");
        TouchMap map = new TouchMap();
        for (int cell = 1; cell <= 63; cell += 31) {
            contract(s, map, 0, "ab", cell);
            spelled(s, map, "ab", cell);
        }
        for (int cell : Sentences.beyond(0, 63)) {
            s.letters(map, "ab");
            s.due("cell " + cell, map.contract(0, cell), false);
        }
        spelled(s, map, "ab", 63);
    }

    private static void wordsAre1To12Letters(Sentences s) {
        s.says("A WORD (1 to 12 letters a .. z)");
        TouchMap map = new TouchMap();
        s.due("no letters", map.name(0, 0, 0, 0), TouchMap.NONE);
        s.due("it is none", map.erase(0), false);
        spelled(s, map, "a", 1);
        spelled(s, map, "z", 53);
        s.letters(map, "zzzzzzzzzzzz");
        s.due("a 13th", map.letter('z'), TouchMap.NONE);
        s.due("12 cells", map.name(7, 0, 0, 0), 12);
        s.due("cell 11", map.cell(7, 11), 53);
        s.due("no cell 12", map.cell(7, 12), TouchMap.NONE);
        s.letters(map, "a");
        for (int c : Sentences.beyond('a', 'z')) {
            s.due("letter(" + c + ")", map.letter(c), TouchMap.NONE);
        }
        s.due("one cell", map.name(7, 0, 0, 0), 1);
    }

    private static void partsFollowOneAnother(Sentences s) {
        s.says("in CELLS: from its beginning on, each a letter or a CONTRACTION that stands there;");
        TouchMap map = new TouchMap();
        contract(s, map, 0, "abcd", 40);
        spelled(s, map, "abc", 1, 3, 9);
        spelled(s, map, "abcd", 40);
        spelled(s, map, "xabcdx", 45, 40, 45);
        spelled(s, map, "bcd", 3, 9, 25);
        spelled(s, map, "xbcd", 45, 3, 9, 25);
        spelled(s, map, "axcd", 1, 45, 9, 25);
        spelled(s, map, "abxd", 1, 3, 45, 25);
        spelled(s, map, "abcx", 1, 3, 9, 45);
        spelled(s, map, "aabcd", 1, 40);
        spelled(s, map, "abcdabcdabcd", 40, 40, 40);
        spelled(s, map, "zzzzzzzzabcd", 53, 53, 53, 53, 53, 53, 53, 53, 40);
        spelled(s, map, "zzzzzzzzzabc", 53, 53, 53, 53, 53, 53, 53, 53, 53, 1, 3, 9);
        // a contraction is not a part of another one
        contract(s, map, 1, "bc", 41);
        spelled(s, map, "abcd", 40);
        spelled(s, map, "abce", 1, 41, 17);
    }

    private static void wordsHaveTheFewestCells(Sentences s) {
        s.says("the fewest; of several");
        TouchMap map = new TouchMap();
        contract(s, map, 0, "abc", 40);
        contract(s, map, 1, "ab", 41);
        contract(s, map, 2, "cdef", 42);
        spelled(s, map, "abcdef", 41, 42);
        spelled(s, map, "abcde", 40, 25, 17);
        spelled(s, map, "xabcdef", 45, 41, 42);
        contract(s, map, 3, "bcde", 43);
        contract(s, map, 4, "fg", 44);
        // a + bcde + fg and ab + cdef + g have three each, abc + d + e + fg has four
        spelled(s, map, "abcdefg", 41, 42, 27);
        spelled(s, map, "abcdefgh", 41, 42, 27, 19);
        contract(s, map, 1, "zz", 41);
        spelled(s, map, "abcdefg", 1, 43, 44);
    }

    private static void longerFirstPart(Sentences s) {
        s.says("the one with the longer first part where two first differ");
        TouchMap map = new TouchMap();
        contract(s, map, 0, "ab", 40);
        contract(s, map, 1, "bc", 41);
        spelled(s, map, "abc", 40, 9);
        spelled(s, map, "xabcx", 45, 40, 9, 45);
        spelled(s, map, "bcabc", 41, 40, 9);
        contract(s, map, 2, "abc", 42);
        contract(s, map, 3, "cd", 43);
        spelled(s, map, "abcd", 42, 25);
        contract(s, map, 4, "bcd", 44);
        spelled(s, map, "abcd", 42, 25);
        // without abc: ab + cd is as short as a + bcd
        contract(s, map, 2, "zz", 42);
        spelled(s, map, "abcd", 40, 43);
        // without ab: a + bcd is the only one of two
        contract(s, map, 0, "zz", 40);
        spelled(s, map, "abcd", 1, 44);
    }

    private static void leastNumberOfAlike(Sentences s) {
        s.says("(of CONTRACTIONS alike in letters the least number).");
        TouchMap map = new TouchMap();
        contract(s, map, 9, "abc", 50);
        spelled(s, map, "abc", 50);
        contract(s, map, 5, "abc", 40);
        spelled(s, map, "abc", 40);
        contract(s, map, 7, "abc", 30);
        spelled(s, map, "abc", 40);
        contract(s, map, 0, "abc", 60);
        spelled(s, map, "abc", 60);
        s.due("0 is none any more", map.contract(0, 0), true);
        spelled(s, map, "abc", 40);
        s.due("5 is none any more", map.contract(5, 0), true);
        spelled(s, map, "abc", 30);
        // one that is longer goes ahead of a lesser number
        contract(s, map, 0, "ab", 20);
        spelled(s, map, "abcd", 30, 25);
    }

    private static void namesAre0To7(Sentences s) {
        s.says("NAMES 0 .. 7 are WORDS at places,");
        TouchMap map = new TouchMap();
        for (int n = 0; n <= 7; n++) {
            named(s, map, n, String.valueOf((char) ('a' + n)), n == 0 ? 400 : 0, n == 1 ? 400 : 0, 0);
        }
        int[] cells = {1, 3, 9, 25, 17, 11, 27, 19};
        for (int n = 0; n <= 7; n++) {
            s.due("cell(" + n + ", 0)", map.cell(n, 0), cells[n]);
        }
        for (int n : Sentences.beyond(0, 7)) {
            s.letters(map, "z");
            s.due("name(" + n + ")", map.name(n, 0, 0, 0), TouchMap.NONE);
        }
        for (int at : Sentences.beyond(0, 400)) {
            s.letters(map, "z");
            s.due("x " + at, map.name(0, at, 0, 0), TouchMap.NONE);
            s.letters(map, "z");
            s.due("y " + at, map.name(0, 0, at, 0), TouchMap.NONE);
        }
        s.due("the word from before", map.cell(0, 0), 1);
    }

    private static void worthsOfNames(Sentences s) {
        s.says("with a WORTH (0 .. 1000).");
        TouchMap map = new TouchMap();
        named(s, map, 0, "a", 100, 100, 0);
        sets(s, "worth 0", map, 0, 0);
        named(s, map, 1, "a", 200, 100, 1000);
        sets(s, "worth 1000", map, 1000, 0, 0);
        for (int worth : Sentences.beyond(0, 1000)) {
            s.letters(map, "a");
            s.due("worth " + worth, map.name(1, 200, 100, worth), TouchMap.NONE);
        }
        sets(s, "worth 1000 still", map, 1000, 0, 0);
        for (int n = 0; n < 8; n++) {
            named(s, map, n, "a", 100, 40 * n + 20, 1000);
        }
        sets(s, "the greatest sum", map, 8000, 0, 0, 0, 0, 0, 0, 0, 0);
    }

    private static void boxesOfNames(Sentences s) {
        s.says("Their box is 6 times their CELLS wide, 10 high.");
        String word = "abcdefghijkl";
        for (int cells = 1; cells <= 12; cells++) {
            TouchMap map = new TouchMap();
            named(s, map, 0, word.substring(0, cells), 396 - 6 * cells, 200, 1);
            sets(s, cells + " cells up to 400", map, 1, 0);
            named(s, map, 0, word.substring(0, cells), 397 - 6 * cells, 200, 1);
            sets(s, cells + " cells up to 401", map, 1, 1);
        }
        TouchMap map = new TouchMap();
        named(s, map, 0, "a", 200, 5, 1);
        sets(s, "from 0 on", map, 1, 0);
        named(s, map, 0, "a", 200, 395, 1);
        sets(s, "up to 400", map, 1, 0);
        // by its cells, not by its letters
        contract(s, map, 0, "abcd", 9);
        s.letters(map, "abcd");
        s.due("one cell", map.name(0, 390, 200, 1), 1);
        sets(s, "one cell up to 400", map, 1, 0);
        s.due("none any more", map.contract(0, 0), true);
        sets(s, "four cells up to 418", map, 1, 1);
    }

    /** A line on each border of the box leaves the spot; one that is 1 within takes it. */
    private static void bordersOf(Sentences s, int spot) {
        int[] b = BOXES[spot];
        int x = (b[0] + b[2]) / 2;
        int y = (b[1] + b[3]) / 2;
        int[][] on = {{b[0], y - 2, b[0], y + 2}, {x - 2, b[1], x + 2, b[1]}, {b[2], y - 2, b[2], y + 2},
            {x - 2, b[3], x + 2, b[3]}};
        int[] dx = {1, 0, -1, 0};
        int[] dy = {0, 1, 0, -1};
        for (int side = 0; side < 4; side++) {
            int[] l = on[side];
            TouchMap map = new TouchMap();
            named(s, map, 0, "ab", 100, 100, 1);
            coverSpotsAhead(s, map, spot, BOXES);
            s.points(map, 11, 0, true, l);
            s.due("keep()", map.keep(), 0);
            sets(s, "on side " + side, map, 1, spot);
            s.points(map, 11, 0, true, l[0] + dx[side], l[1] + dy[side], l[2] + dx[side], l[3] + dy[side]);
            s.due("keep()", map.keep(), 0);
            sets(s, "within side " + side, map, spot == 3 ? 0 : 1, spot + 1);
        }
    }

    private static void spots(Sentences s) {
        s.says("SPOTS: 0 from x + 4, y - 5 on (to the right),");
        bordersOf(s, 0);
        s.says("1 so that it ends at x - 4, from y - 5 on,");
        bordersOf(s, 1);
        s.says("2 from x - half its width (3 times its CELLS), y + 4 on,");
        bordersOf(s, 2);
        s.says("3 from x - half its width on, so that it ends at y - 4 (x, y of the box being its least ones).");
        bordersOf(s, 3);
    }

    private static void someNamesInSpots(Sentences s) {
        s.says("THE SETTING: some NAMES in SPOTS,");
        TouchMap map = new TouchMap();
        sets(s, "no names", map, 0, TouchMap.NONE, TouchMap.NONE);
        named(s, map, 0, "a", 0, 0, 9);
        sets(s, "in the corner none fits", map, 0, 4);
        named(s, map, 7, "a", 200, 200, 5);
        sets(s, "one of two", map, 5, 4, -1, -1, -1, -1, -1, -1, 0);
        named(s, map, 0, "a", 100, 200, 9);
        sets(s, "both", map, 14, 0, -1, -1, -1, -1, -1, -1, 0);
    }

    private static void allOfABox(Sentences s) {
        s.says("all of a box from 0 to 400 both ways,");
        // x, y, how many of the spots are covered by lines, the spot that is left
        int[][] places = {{378, 200, 0, 0}, {379, 200, 0, 1}, {200, 5, 0, 0}, {200, 4, 0, 2}, {200, 395, 0, 0},
            {200, 396, 0, 3}, {22, 200, 1, 1}, {21, 200, 1, 2}, {200, 5, 1, 1}, {200, 395, 1, 1}, {9, 200, 2, 2},
            {8, 200, 2, 4}, {391, 200, 2, 2}, {392, 200, 2, 4}, {200, 386, 2, 2}, {200, 387, 2, 3}, {200, 14, 3, 3},
            {200, 13, 3, 4}, {9, 200, 3, 3}, {8, 200, 3, 4}, {391, 200, 3, 3}, {392, 200, 3, 4}, {200, 0, 0, 2},
            {200, 400, 0, 3}, {0, 200, 0, 0}, {400, 200, 0, 1}, {9, 0, 0, 2}, {8, 0, 0, 4}, {391, 400, 0, 3},
            {392, 400, 0, 4}, {0, 0, 0, 4}, {400, 0, 0, 4}, {0, 400, 0, 4}, {400, 400, 0, 4}};
        for (int[] p : places) {
            TouchMap map = new TouchMap();
            named(s, map, 0, "abc", p[0], p[1], 7);
            int[][] boxes = boxesAt(p[0], p[1], 3);
            for (int[] box : boxes) {
                // what is covered beyond the map could not be drawn, and need not be
                boolean outside = box[0] < 0 || box[1] < 0 || box[2] > 400 || box[3] > 400;
                if (outside) {
                    System.arraycopy(new int[] {200, 300, 202, 302}, 0, box, 0, 4);
                }
            }
            coverSpotsAhead(s, map, p[2], boxes);
            sets(s, p[0] + ", " + p[1], map, p[3] == 4 ? 0 : 7, p[3]);
        }
    }

    private static void boxesMayShareABorder(Sentences s) {
        s.says("no two boxes having more than a border in common,");
        // where the other name is, and its spot beside one at 100, 100 in spot 0
        int[][] places = {{106, 100, 0}, {105, 100, 1}, {100, 110, 0}, {100, 109, 1}, {100, 90, 0}, {100, 91, 1},
            {106, 110, 0}, {105, 109, 1}, {106, 109, 0}, {105, 110, 0}, {94, 100, 0}, {95, 100, 1}, {100, 100, 1},
            {300, 300, 0}, {101, 101, 1}};
        for (int[] p : places) {
            TouchMap map = new TouchMap();
            named(s, map, 0, "a", 100, 100, 7);
            named(s, map, 1, "a", p[0], p[1], 7);
            sets(s, p[0] + ", " + p[1], map, 14, 0, p[2]);
        }
        // a wide one at x of the first and a narrow one at x of the second, and their spots
        int[][] widths = {{100, 124, 0, 0}, {100, 123, 1, 0}, {106, 100, 0, 0}, {105, 100, 0, 1}};
        for (int[] w : widths) {
            TouchMap map = new TouchMap();
            named(s, map, 0, "aaaa", w[0], 100, 7);
            named(s, map, 1, "a", w[1], 100, 7);
            sets(s, "wide at " + w[0] + ", narrow at " + w[1], map, 14, w[2], w[3]);
        }
        int[][] others = {{124, 100, 0, 0}, {123, 100, 0, 1}, {100, 106, 0, 0}, {100, 105, 0, 1}};
        for (int[] w : others) {
            TouchMap map = new TouchMap();
            named(s, map, 0, "a", w[0], 100, 7);
            named(s, map, 1, "aaaa", w[1], 100, 7);
            sets(s, "narrow at " + w[0] + ", wide at " + w[1], map, 14, w[2], w[3]);
        }
        // each spot of the narrow one has a part of the wide one's spot 0
        TouchMap map = new TouchMap();
        named(s, map, 0, "aaaaaa", 100, 100, 7);
        named(s, map, 1, "a", 110, 100, 7);
        sets(s, "one across the other", map, 14, 1, 0);
    }

    private static void onlyKeptWaysCount(Sentences s) {
        s.says("no LINE of a KEPT WAY");
        TouchMap map = new TouchMap();
        named(s, map, 0, "ab", 100, 100, 7);
        s.points(map, 0, 5, false, 0, 100, 200, 100);
        s.points(map, 1, 4, false, 0, 109, 200, 109);
        s.due("keep()", map.keep(), 5);
        sets(s, "way 1 is not kept", map, 7, 2);
        s.points(map, 1, 6, false, 0, 109, 200, 109);
        s.due("keep()", map.keep(), 6);
        sets(s, "way 0 is not kept", map, 7, 0);
        map.gap(9);
        s.due("keep()", map.keep(), 11);
        sets(s, "both are kept", map, 7, 3);
        s.points(map, 2, 1, false, 100, 91);
        s.due("keep()", map.keep(), 12);
        sets(s, "a point alone has no lines", map, 7, 3);
        s.due("a second point", map.point(2, 100, 90), 2);
        s.due("keep()", map.keep(), 12);
        sets(s, "now it has", map, 0, 4);
        // the twelfth way, its last line
        TouchMap other = new TouchMap();
        named(s, other, 7, "ab", 100, 100, 7);
        other.way(11, 1, false);
        for (int i = 0; i < 19; i++) {
            other.point(11, 200 + i, i % 2);
        }
        other.point(11, 110, 100);
        s.due("keep()", other.keep(), 1);
        sets(s, "the last line of way 11", other, 7, -1, -1, -1, -1, -1, -1, -1, 1);
    }

    private static void keptAsToldLast(Sentences s) {
        s.says("(as keep() told last; none ahead of any)");
        TouchMap map = new TouchMap();
        named(s, map, 0, "ab", 100, 100, 7);
        s.points(map, 0, 5, true, 0, 100, 200, 100);
        sets(s, "ahead of any keep()", map, 7, 0);
        s.points(map, 1, 5, true, 0, 101, 200, 101);
        s.due("keep()", map.keep(), -1);
        sets(s, "ahead of any that told some", map, 7, 0);
        s.due("way 1 goes", map.way(1, 5, false), true);
        sets(s, "there would be some now", map, 7, 0);
        s.due("keep()", map.keep(), 5);
        sets(s, "way 0", map, 7, 2);
        s.points(map, 2, 5, false, 0, 109, 200, 109);
        sets(s, "way 2 was not there", map, 7, 2);
        s.points(map, 1, 5, true, 0, 101, 200, 101);
        s.due("keep()", map.keep(), -1);
        sets(s, "as told last", map, 7, 2);
        s.due("a kept way begins anew", map.way(0, 5, false), true);
        sets(s, "without lines", map, 7, 0);
    }

    private static void withinABox(Sentences s) {
        s.says("having a place within a box (a border is not within):");
        // the box of spot 0 is 104, 95 to 116, 105; the last of each row: the spot
        int[][] lines = {{104, 0, 104, 400, 0}, {105, 0, 105, 94, 0}, {110, 0, 110, 95, 0}, {110, 0, 110, 96, 1},
            {110, 105, 110, 400, 0}, {110, 104, 110, 400, 1}, {116, 100, 200, 100, 0}, {115, 100, 200, 100, 1},
            {116, 0, 116, 400, 0}, {107, 95, 115, 95, 0}, {107, 105, 400, 105, 0},
            {109, 99, 111, 101, 1}, {104, 95, 116, 105, 1}, {116, 95, 104, 105, 1}, {104, 100, 110, 105, 1},
            {104, 105, 116, 105, 0}, {98, 99, 110, 111, 0}, {99, 99, 111, 111, 1}, {110, 89, 122, 101, 0},
            {110, 90, 122, 102, 1}, {0, 95, 400, 95, 0}, {0, 105, 400, 105, 0}, {0, 96, 400, 96, 2}, {0, 104, 400, 104, 2},
            {0, 150, 300, 0, 2}, {116, 105, 300, 300, 0}, {104, 95, 103, 94, 0}, {115, 104, 300, 300, 1},
            {108, 0, 400, 240, 0}, {107, 0, 111, 400, 1}, {0, 0, 400, 360, 1},
            // in a straight line with it, on each side
            {0, 100, 84, 100, 0}, {97, 100, 103, 100, 0}, {120, 100, 400, 100, 0}, {110, 0, 110, 90, 0}, {110, 110, 110, 400, 0},
            // over each corner by as little as can be on this slope, and just past it
            {98, 100, 113, 112, 1}, {98, 101, 113, 113, 0}, {122, 100, 107, 112, 1}, {122, 101, 107, 113, 0},
            {98, 100, 113, 88, 1}, {98, 99, 113, 87, 0}, {122, 100, 107, 88, 1}, {122, 99, 107, 87, 0}};
        for (int[] l : lines) {
            TouchMap map = new TouchMap();
            named(s, map, 0, "ab", 100, 100, 7);
            s.points(map, 0, 1, false, l[0], l[1], l[2], l[3]);
            s.due("keep()", map.keep(), 1);
            sets(s, l[0] + ", " + l[1] + " to " + l[2] + ", " + l[3], map, 7, l[4]);
            s.points(map, 0, 1, false, l[2], l[3], l[0], l[1]);
            s.due("keep()", map.keep(), 1);
            sets(s, l[2] + ", " + l[3] + " to " + l[0] + ", " + l[1], map, 7, l[4]);
        }
        int[][] places = {{110, 100, 1}, {104, 100, 0}, {110, 95, 0}, {105, 96, 1}, {115, 104, 1}, {116, 104, 0}, {115, 105, 0}};
        for (int[] p : places) {
            TouchMap map = new TouchMap();
            named(s, map, 0, "ab", 100, 100, 7);
            s.points(map, 0, 1, false, p[0], p[1], p[0] + 3, p[1] + 4, p[0], p[1]);
            s.due("simple", map.simple(0, 5), 2);
            s.due("keep()", map.keep(), 1);
            sets(s, "a line of one place, " + p[0] + ", " + p[1], map, 7, p[2]);
        }
    }

    // at y = 0 spot 2 alone fits, so that names less than their width apart shut each other out

    private static void settingHasTheGreatestSum(Sentences s) {
        s.says("the greatest sum of WORTHS;");
        TouchMap map = new TouchMap();
        named(s, map, 0, "a", 3, 0, 5);
        named(s, map, 1, "a", 5, 0, 6);
        sets(s, "the worthier one", map, 6, 4, 2);
        named(s, map, 0, "a", 6, 0, 5);
        named(s, map, 1, "a", 3, 0, 3);
        named(s, map, 2, "a", 9, 0, 3);
        sets(s, "two are worth more", map, 6, 4, 2, 2);
        named(s, map, 0, "a", 6, 0, 7);
        sets(s, "one is worth more", map, 7, 2, 4, 4);
        named(s, map, 3, "a", 12, 0, 1);
        sets(s, "one, and one beside it", map, 8, 2, 4, 4, 2);
        named(s, map, 0, "a", 6, 0, 1000);
        named(s, map, 1, "a", 3, 0, 1000);
        named(s, map, 2, "a", 9, 0, 999);
        named(s, map, 3, "a", 12, 0, 998);
        sets(s, "worths of 1000", map, 1999, 4, 2, 2, 4);
        // a less worthy name with a lesser number makes room by another spot
        TouchMap other = new TouchMap();
        named(s, other, 0, "a", 395, 101, 1);
        sets(s, "alone", other, 1, 1);
        named(s, other, 1, "a", 400, 100, 9);
        sets(s, "room for both", other, 10, 2, 1);
    }

    private static void settingHasMoreNames(Sentences s) {
        s.says("of several with more NAMES;");
        TouchMap map = new TouchMap();
        named(s, map, 0, "a", 6, 0, 6);
        named(s, map, 1, "a", 3, 0, 3);
        named(s, map, 2, "a", 9, 0, 3);
        sets(s, "two as worthy as one", map, 6, 4, 2, 2);
        named(s, map, 3, "a", 300, 200, 0);
        sets(s, "one of worth 0 too", map, 6, 4, 2, 2, 0);
        TouchMap other = new TouchMap();
        named(s, other, 0, "a", 6, 0, 0);
        named(s, other, 1, "a", 3, 0, 0);
        named(s, other, 2, "a", 9, 0, 0);
        sets(s, "all of worth 0", other, 0, 4, 2, 2);
    }

    private static void settingHasLesserSpots(Sentences s) {
        s.says("of these the one with the lesser SPOT (without: 4) for the least number in which two differ.");
        TouchMap map = new TouchMap();
        named(s, map, 0, "a", 3, 0, 5);
        named(s, map, 1, "a", 5, 0, 5);
        sets(s, "without comes last", map, 5, 2, 4);
        for (int n = 0; n < 8; n++) {
            named(s, map, n, "a", 100, 100, 5);
        }
        sets(s, "eight at one place", map, 20, 0, 1, 2, 3, 4, 4, 4, 4);
        named(s, map, 0, "a", 100, 100, 4);
        sets(s, "the first is worth less", map, 20, 4, 0, 1, 2, 3, 4, 4, 4);
        named(s, map, 7, "a", 100, 100, 6);
        sets(s, "the last is worth more", map, 21, 4, 0, 1, 2, 4, 4, 4, 3);
        // name 0 takes its lesser spot though name 1 must take a greater one then
        TouchMap other = new TouchMap();
        named(s, other, 0, "a", 100, 100, 1);
        named(s, other, 1, "a", 103, 100, 1000);
        sets(s, "the least number decides", other, 1001, 0, 1);
    }
}

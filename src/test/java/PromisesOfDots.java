/** The promises 12 to 18, sentence by sentence. */
final class PromisesOfDots {
    private PromisesOfDots() { }

    static void test(Sentences s) {
        lettersComeBehind(s);
        letterIsNone(s);
        tapeIsFull(s);
        contractionIsTheTape(s);
        contractTakesTheTape(s);
        contractionIsACell(s);
        contractionIsNoneAnyMore(s);
        contractCantBe(s);
        nameIsTheTape(s);
        nameTakesTheTape(s);
        nameTellsItsCells(s);
        nameCantBe(s);
        nameIsNoneAnyMore(s);
        eraseOfNone(s);
        cellByContractionsAsTheyAre(s);
        cellOfNone(s);
        setTellsTheSum(s);
        spotIsOfTheLatestSet(s);
        spotOfANameThatIsNotSet(s);
        spotOfNoNameThen(s);
        spotAheadOfAny(s);
    }

    private static void named(Sentences s, TouchMap map, int n, String word, int x, int y, int worth) {
        s.letters(map, word);
        s.due("name " + n, map.name(n, x, y, worth), word.length());
    }

    private static void cells(Sentences s, TouchMap map, int n, int... cells) {
        for (int i = 0; i < cells.length; i++) {
            s.due("cell(" + n + ", " + i + ")", map.cell(n, i), cells[i]);
        }
        s.due("no cell(" + n + ", " + cells.length + ")", map.cell(n, cells.length), TouchMap.NONE);
    }

    private static void lettersComeBehind(Sentences s) {
        s.says(12, "The tape of letters: a letter (a byte a .. z) comes behind those on it: how many;");
        TouchMap map = new TouchMap();
        s.letters(map, "za");
        s.due("name", map.name(0, 0, 0, 0), 2);
        cells(s, map, 0, 53, 1);
        s.letters(map, "abcdefghijkl");
        s.due("name", map.name(0, 0, 0, 0), 12);
        s.letters(map, "mnopqrstuvwx");
        s.due("name", map.name(0, 0, 0, 0), 12);
        s.letters(map, "yyyy");
    }

    private static void letterIsNone(Sentences s) {
        s.says(12, "NONE when it is none,");
        TouchMap map = Bench.full("ab");
        for (int c : Sentences.beyond('a', 'z')) {
            s.due("letter(" + c + ")", map.letter(c), TouchMap.NONE);
        }
        int[] others = {'A', 'Z', '0', ' ', 0, 1, 26, -'a', 'a' + 128, 'a' - 128, 0x80000000 + 'a'};
        for (int c : others) {
            s.due("letter(" + c + ")", map.letter(c), TouchMap.NONE);
        }
        s.asBefore(map, "ab");
    }

    private static void tapeIsFull(Sentences s) {
        s.says(12, "or there are 12.");
        TouchMap map = new TouchMap();
        s.letters(map, "abcdefghijkl");
        s.due("a 13th", map.letter('z'), TouchMap.NONE);
        s.due("a 13th again", map.letter('a'), TouchMap.NONE);
        s.due("name", map.name(0, 0, 0, 0), 12);
        s.due("the 12th is as it was", map.cell(0, 11), 7);
        s.letters(map, "abcdefghijkl");
        s.due("a 13th", map.letter('z'), TouchMap.NONE);
        s.due("too many for a contraction", map.contract(0, 5), false);
        s.due("an empty tape", map.letter('z'), 1);
    }

    private static void contractionIsTheTape(Sentences s) {
        s.says(13, "CONTRACTION k is the tape's letters");
        TouchMap map = new TouchMap();
        s.letters(map, "ab");
        s.due("contract(0)", map.contract(0, 40), true);
        s.letters(map, "cdef");
        s.due("contract(9)", map.contract(9, 50), true);
        s.letters(map, "abcdef");
        s.due("name", map.name(0, 0, 0, 0), 2);
        cells(s, map, 0, 40, 50);
        s.letters(map, "bc");
        s.due("contract(0), of other letters", map.contract(0, 41), true);
        cells(s, map, 0, 1, 3, 50);
        s.letters(map, "abc");
        s.due("contract(9), of fewer letters", map.contract(9, 51), true);
        cells(s, map, 0, 51, 25, 17, 11);
    }

    private static void contractTakesTheTape(Sentences s) {
        s.says(13, "(they go, in any case),");
        String[] tapes = {"ab", "ab", "ab", "ab", "a", "abcde", "abcdefghijkl", "ab", "abcdefghijkl"};
        int[] numbers = {0, 9, -1, 10, 0, 0, 0, 0, 0};
        int[] cells = {40, 0, 40, 40, 40, 40, 40, 64, 0};
        boolean[] can = {true, true, false, false, false, false, false, false, true};
        for (int i = 0; i < tapes.length; i++) {
            TouchMap map = new TouchMap();
            s.letters(map, tapes[i]);
            s.due("contract " + i, map.contract(numbers[i], cells[i]), can[i]);
            s.due("no word is left", map.name(0, 0, 0, 0), TouchMap.NONE);
            s.due("the next letter is the first", map.letter('z'), 1);
            s.due("name", map.name(0, 0, 0, 0), 1);
            cells(s, map, 0, 53);
        }
    }

    private static void contractionIsACell(Sentences s) {
        s.says(13, "as a CELL");
        TouchMap map = new TouchMap();
        s.letters(map, "th");
        s.due("name", map.name(0, 0, 0, 0), 2);
        for (int cell = 1; cell <= 63; cell++) {
            s.letters(map, "th");
            s.due("contract(9, " + cell + ")", map.contract(9, cell), true);
            s.due("cell(0, 0)", map.cell(0, 0), cell);
        }
        cells(s, map, 0, 63);
    }

    private static void contractionIsNoneAnyMore(Sentences s) {
        s.says(13, "(0: it is none any more): true;");
        TouchMap map = new TouchMap();
        s.letters(map, "th");
        s.due("contract(0)", map.contract(0, 40), true);
        s.letters(map, "he");
        s.due("contract(1)", map.contract(1, 41), true);
        s.letters(map, "the");
        s.due("name", map.name(0, 0, 0, 0), 2);
        cells(s, map, 0, 40, 17);
        s.due("contract(0, 0)", map.contract(0, 0), true);
        cells(s, map, 0, 30, 41);
        s.due("contract(0, 0), none was", map.contract(0, 0), true);
        s.due("contract(9, 0), none was ever", map.contract(9, 0), true);
        cells(s, map, 0, 30, 41);
        s.letters(map, "th");
        s.due("contract(1, 0), whatever is on the tape", map.contract(1, 0), true);
        cells(s, map, 0, 30, 19, 17);
        s.letters(map, "th");
        s.due("contract(0, 42) again", map.contract(0, 42), true);
        cells(s, map, 0, 42, 17);
    }

    private static void contractCantBe(Sentences s) {
        s.says(13, "false when that can't be.");
        TouchMap map = Bench.full("");
        for (int k : Sentences.beyond(0, 9)) {
            s.letters(map, "he");
            s.due("k " + k, map.contract(k, 5), false);
            s.due("k " + k + " as none", map.contract(k, 0), false);
        }
        for (int cell : Sentences.beyond(0, 63)) {
            s.letters(map, "he");
            s.due("cell " + cell, map.contract(4, cell), false);
        }
        s.due("no letters", map.contract(4, 5), false);
        s.letters(map, "t");
        s.due("one letter", map.contract(4, 5), false);
        s.letters(map, "thezo");
        s.due("five letters", map.contract(4, 5), false);
        s.letters(map, "thethethethe");
        s.due("twelve letters", map.contract(4, 5), false);
        s.asBefore(map, "");
    }

    private static void nameIsTheTape(Sentences s) {
        s.says(14, "NAME n is the tape's WORD");
        TouchMap map = new TouchMap();
        named(s, map, 0, "abc", 0, 0, 0);
        named(s, map, 7, "z", 0, 0, 0);
        cells(s, map, 0, 1, 3, 9);
        cells(s, map, 7, 53);
        named(s, map, 0, "z", 0, 0, 0);
        cells(s, map, 0, 53);
        named(s, map, 0, "zzzzzzzzzzzz", 0, 0, 0);
        cells(s, map, 0, 53, 53, 53, 53, 53, 53, 53, 53, 53, 53, 53, 53);
        cells(s, map, 7, 53);
    }

    private static void nameTakesTheTape(Sentences s) {
        s.says(14, "(it goes, in any case),");
        int[][] calls = {{0, 0, 0, 0, 2}, {-1, 0, 0, 0, -1}, {8, 0, 0, 0, -1}, {0, -1, 0, 0, -1}, {0, 401, 0, 0, -1},
            {0, 0, -1, 0, -1}, {0, 0, 401, 0, -1}, {0, 0, 0, -1, -1}, {0, 0, 0, 1001, -1}};
        for (int[] c : calls) {
            TouchMap map = new TouchMap();
            s.letters(map, "ab");
            s.due("name", map.name(c[0], c[1], c[2], c[3]), c[4]);
            s.due("no letters are left", map.contract(0, 5), false);
            s.due("no word is left", map.name(1, 0, 0, 0), TouchMap.NONE);
            s.due("the next letter is the first", map.letter('z'), 1);
            s.due("name", map.name(1, 0, 0, 0), 1);
            cells(s, map, 1, 53);
        }
    }

    private static void nameTellsItsCells(Sentences s) {
        s.says(14, "at a place, with a WORTH: how many CELLS it has now;");
        TouchMap map = new TouchMap();
        named(s, map, 0, "a", 0, 0, 0);
        named(s, map, 0, "a", 400, 400, 1000);
        s.due("in the corner", map.set(), 0);
        named(s, map, 0, "a", 400, 200, 1000);
        s.due("at the border", map.set(), 1000);
        s.due("to its left", map.spot(0), 1);
        named(s, map, 0, "a", 0, 200, 999);
        s.due("at the other border", map.set(), 999);
        s.due("to its right", map.spot(0), 0);
        s.letters(map, "the");
        s.due("contract", map.contract(0, 9), true);
        s.letters(map, "thethethethe");
        s.due("four cells", map.name(1, 0, 0, 0), 4);
        s.due("contract", map.contract(0, 0), true);
        s.letters(map, "thethethethe");
        s.due("twelve cells", map.name(1, 0, 0, 0), 12);
    }

    private static void nameCantBe(Sentences s) {
        s.says(14, "NONE when that can't be.");
        TouchMap map = Bench.full("");
        for (int n : Sentences.beyond(0, 7)) {
            s.letters(map, "q");
            s.due("n " + n, map.name(n, 5, 5, 5), TouchMap.NONE);
        }
        for (int at : Sentences.beyond(0, 400)) {
            s.letters(map, "q");
            s.due("x " + at, map.name(0, at, 5, 5), TouchMap.NONE);
            s.letters(map, "q");
            s.due("y " + at, map.name(2, 5, at, 5), TouchMap.NONE);
        }
        for (int worth : Sentences.beyond(0, 1000)) {
            s.letters(map, "q");
            s.due("worth " + worth, map.name(0, 5, 5, worth), TouchMap.NONE);
        }
        s.due("no word", map.name(0, 5, 5, 5), TouchMap.NONE);
        s.due("no word, and no name so far", map.name(3, 5, 5, 5), TouchMap.NONE);
        s.asBefore(map, "");
    }

    private static void nameIsNoneAnyMore(Sentences s) {
        s.says(15, "NAME n is none any more: true;");
        TouchMap map = new TouchMap();
        named(s, map, 0, "a", 100, 100, 5);
        named(s, map, 7, "b", 200, 100, 6);
        s.due("erase(7)", map.erase(7), true);
        s.due("cell(7, 0)", map.cell(7, 0), TouchMap.NONE);
        s.due("set()", map.set(), 5);
        s.due("spot(7)", map.spot(7), TouchMap.NONE);
        s.due("erase(0)", map.erase(0), true);
        s.due("set()", map.set(), 0);
        s.due("spot(0)", map.spot(0), TouchMap.NONE);
        named(s, map, 7, "c", 200, 100, 4);
        s.due("set()", map.set(), 4);
        s.letters(map, "ab");
        s.due("erase(7) again", map.erase(7), true);
        s.due("the tape stays", map.letter('c'), 3);
    }

    private static void eraseOfNone(Sentences s) {
        s.says(15, "false when there was none such.");
        TouchMap map = Bench.full("ab");
        for (int n : Sentences.beyond(0, 7)) {
            s.due("erase(" + n + ")", map.erase(n), false);
        }
        s.due("erased before", map.erase(1), false);
        for (int n = 3; n < 8; n++) {
            s.due("erase(" + n + ")", map.erase(n), false);
        }
        s.asBefore(map, "ab");
        s.due("erase(0)", map.erase(0), true);
        s.due("erase(0) again", map.erase(0), false);
    }

    private static void cellByContractionsAsTheyAre(Sentences s) {
        s.says(16, "CELL i of a NAME, by CONTRACTIONS as they are;");
        TouchMap map = new TouchMap();
        named(s, map, 0, "with", 0, 0, 0);
        named(s, map, 7, "it", 0, 0, 0);
        cells(s, map, 0, 58, 10, 30, 19);
        s.letters(map, "it");
        s.due("contract", map.contract(3, 33), true);
        cells(s, map, 0, 58, 33, 19);
        cells(s, map, 7, 33);
        s.letters(map, "with");
        s.due("contract", map.contract(4, 44), true);
        cells(s, map, 0, 44);
        cells(s, map, 7, 33);
        s.due("contract", map.contract(3, 0), true);
        s.due("contract", map.contract(4, 0), true);
        cells(s, map, 0, 58, 10, 30, 19);
        cells(s, map, 7, 10, 30);
    }

    private static void cellOfNone(Sentences s) {
        s.says(16, "NONE when there is none such.");
        TouchMap map = Bench.full("ab");
        for (int n : Sentences.beyond(0, 7)) {
            s.due("n " + n, map.cell(n, 0), TouchMap.NONE);
        }
        s.due("name 0 has two cells", map.cell(0, 1), 17);
        for (int i : Sentences.beyond(0, 1)) {
            s.due("i " + i, map.cell(0, i), TouchMap.NONE);
        }
        s.due("erased", map.cell(1, 0), TouchMap.NONE);
        s.due("never a name", map.cell(3, 0), TouchMap.NONE);
        TouchMap longest = new TouchMap();
        named(s, longest, 0, "abcdefghijkl", 0, 0, 0);
        s.due("the last of 12", longest.cell(0, 11), 7);
        for (int i : Sentences.beyond(0, 11)) {
            s.due("i " + i + " of 12", longest.cell(0, i), TouchMap.NONE);
        }
    }

    private static void setTellsTheSum(Sentences s) {
        s.says(17, "THE SETTING is found: the sum of WORTHS.");
        TouchMap map = new TouchMap();
        s.due("of none", map.set(), 0);
        named(s, map, 0, "a", 0, 0, 1000);
        s.due("of one that does not fit", map.set(), 0);
        named(s, map, 1, "a", 200, 200, 0);
        s.due("of one without worth", map.set(), 0);
        for (int n = 0; n < 8; n++) {
            named(s, map, n, "abcdefghijkl", 200, 40 * n + 20, 1000);
        }
        s.due("of all", map.set(), 8000);
        s.due("again", map.set(), 8000);
        // nothing of a setting stays for the next one
        TouchMap other = new TouchMap();
        named(s, other, 0, "a", 100, 100, 3);
        named(s, other, 1, "b", 100, 100, 4);
        s.due("at one place", other.set(), 7);
        s.due("spot(1) beside name 0", other.spot(1), 1);
        named(s, other, 1, "b", 200, 200, 4);
        s.due("far apart", other.set(), 7);
        s.due("spot(1) by itself", other.spot(1), 0);
    }

    private static void spotIsOfTheLatestSet(Sentences s) {
        s.says(18, "The SPOT of a NAME in the latest set()");
        TouchMap map = new TouchMap();
        named(s, map, 0, "a", 100, 100, 5);
        s.due("set()", map.set(), 5);
        s.due("spot(0)", map.spot(0), 0);
        named(s, map, 0, "a", 400, 100, 5);
        s.due("named again since", map.spot(0), 0);
        s.due("set()", map.set(), 5);
        s.due("spot(0)", map.spot(0), 1);
        s.due("erase(0)", map.erase(0), true);
        s.due("erased since", map.spot(0), 1);
        s.due("set()", map.set(), 0);
        s.due("not in the latest", map.spot(0), TouchMap.NONE);
    }

    private static void spotOfANameThatIsNotSet(Sentences s) {
        s.says(18, "(4: it is not set);");
        TouchMap map = new TouchMap();
        named(s, map, 7, "a", 0, 0, 1000);
        s.due("set()", map.set(), 0);
        s.due("spot(7)", map.spot(7), 4);
        s.due("erase(7)", map.erase(7), true);
        s.due("as in the latest set()", map.spot(7), 4);
    }

    private static void spotOfNoNameThen(Sentences s) {
        s.says(18, "NONE when it was none then,");
        TouchMap map = Bench.full("ab");
        for (int n : Sentences.beyond(0, 7)) {
            s.due("spot(" + n + ")", map.spot(n), TouchMap.NONE);
        }
        s.due("named since", map.spot(2), TouchMap.NONE);
        s.due("never named", map.spot(7), TouchMap.NONE);
        s.due("set()", map.set(), 4);
        s.due("named now", map.spot(2), 0);
        s.due("erased", map.spot(1), TouchMap.NONE);
    }

    private static void spotAheadOfAny(Sentences s) {
        s.says(18, "or ahead of any.");
        TouchMap map = new TouchMap();
        for (int n = 0; n < 8; n++) {
            named(s, map, n, "a", 100, 40 * n + 20, 5);
        }
        for (int n = 0; n < 8; n++) {
            s.due("spot(" + n + ")", map.spot(n), TouchMap.NONE);
        }
        s.due("set()", map.set(), 40);
        for (int n = 0; n < 8; n++) {
            s.due("spot(" + n + ")", map.spot(n), 0);
        }
    }
}

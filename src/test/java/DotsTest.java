/** Promises 12 to 16: letter, contract, name, erase, cell. */
public final class DotsTest {
    private static final Check check = new Check();

    public static void main(String[] args) {
        letters();
        alphabet();
        contractions();
        wrongContractions();
        fewestCells();
        longerFirstPart();
        leastNumberOfAlike();
        names();
        cells();
        check.end();
    }

    private static void contract(TouchMap map, int k, String letters, int cell) {
        check.letters(map, letters);
        check.due("contract(" + k + ", " + cell + ") " + letters, map.contract(k, cell), true);
    }

    private static void named(TouchMap map, int n, String word, int... cells) {
        check.letters(map, word);
        check.due("cells of " + word, map.name(n, 0, 0, 0), cells.length);
        for (int i = 0; i < cells.length; i++) {
            check.due("cell " + i + " of " + word, map.cell(n, i), cells[i]);
        }
        check.due("no more cells of " + word, map.cell(n, cells.length), TouchMap.NONE);
    }

    private static void letters() {
        TouchMap map = new TouchMap();
        int[] wrong = {'a' - 1, 'z' + 1, 'A', 0, -1, 'a' + 256, Integer.MAX_VALUE, Integer.MIN_VALUE};
        for (int c : wrong) {
            check.due("letter(" + c + ")", map.letter(c), TouchMap.NONE);
        }
        check.letters(map, "azazazazazaz");
        check.due("a 13th", map.letter('a'), TouchMap.NONE);
        check.due("name", map.name(0, 0, 0, 0), 12);
        check.due("a new tape", map.letter('a'), 1);
    }

    private static void alphabet() {
        int[] dots = {1, 3, 9, 25, 17, 11, 27, 19, 10, 26, 5, 7, 13, 29, 21, 15, 31, 23, 14, 30, 37, 39, 58, 45, 61, 53};
        TouchMap map = new TouchMap();
        for (int i = 0; i < 26; i++) {
            named(map, i % 8, String.valueOf((char) ('a' + i)), dots[i]);
        }
    }

    private static void contractions() {
        TouchMap map = new TouchMap();
        named(map, 0, "with", 58, 10, 30, 19);
        contract(map, 9, "with", 63);
        check.due("as they are", map.cell(0, 0), 63);
        check.due("as they are", map.cell(0, 1), TouchMap.NONE);
        contract(map, 9, "it", 1);
        check.due("another now", map.cell(0, 0), 58);
        check.due("another now", map.cell(0, 1), 1);
        check.due("another now", map.cell(0, 2), 19);
        check.due("none any more", map.contract(9, 0), true);
        check.due("none any more", map.cell(0, 3), 19);
        check.due("none was", map.contract(9, 0), true);
        check.letters(map, "abcdefghijkl");
        check.due("none any more, whatever is on the tape", map.contract(9, 0), true);
        check.due("the tape went", map.letter('a'), 1);
    }

    private static void wrongContractions() {
        TouchMap map = new TouchMap();
        contract(map, 0, "ab", 5);
        String[] words = {"", "a", "ab", "ab", "ab", "ab", "abcde"};
        int[] numbers = {0, 0, -1, 10, 0, 0, 0};
        int[] cells = {7, 7, 7, 7, -1, 64, 7};
        for (int i = 0; i < words.length; i++) {
            check.letters(map, words[i]);
            check.due("contract " + i, map.contract(numbers[i], cells[i]), false);
            check.due("the tape went", map.letter('x'), 1);
            check.due("name", map.name(7, 0, 0, 0), 1);
        }
        check.due("contract(-1, 0)", map.contract(-1, 0), false);
        check.due("contract(10, 0)", map.contract(10, 0), false);
        named(map, 0, "ab", 5);
    }

    private static void fewestCells() {
        TouchMap map = new TouchMap();
        contract(map, 0, "abc", 40);
        contract(map, 1, "ab", 41);
        contract(map, 2, "cdef", 42);
        named(map, 0, "abcdef", 41, 42);
        named(map, 1, "abcde", 40, 25, 17);
        contract(map, 3, "aa", 43);
        named(map, 2, "aaaaaaaaaaaa", 43, 43, 43, 43, 43, 43);
        named(map, 3, "aaa", 43, 1);
    }

    private static void longerFirstPart() {
        TouchMap map = new TouchMap();
        contract(map, 0, "ab", 40);
        contract(map, 1, "bc", 41);
        contract(map, 2, "bcd", 42);
        contract(map, 3, "abc", 43);
        contract(map, 4, "de", 44);
        named(map, 0, "abc", 43);
        named(map, 1, "abcd", 43, 25);
        named(map, 2, "abcde", 43, 44);
        named(map, 3, "xabcdx", 45, 43, 25, 45);
        check.due("without abc", map.contract(3, 0), true);
        named(map, 4, "abc", 40, 9);
        named(map, 5, "abcd", 1, 42);
    }

    private static void leastNumberOfAlike() {
        TouchMap map = new TouchMap();
        contract(map, 7, "ab", 40);
        named(map, 0, "ab", 40);
        contract(map, 3, "ab", 41);
        named(map, 0, "ab", 41);
        contract(map, 9, "ab", 42);
        named(map, 0, "ab", 41);
        check.due("without 3", map.contract(3, 0), true);
        named(map, 0, "ab", 40);
    }

    private static void names() {
        TouchMap map = new TouchMap();
        int[][] wrong = {{-1, 0, 0, 0}, {8, 0, 0, 0}, {0, -1, 0, 0}, {0, 401, 0, 0}, {0, 0, -1, 0}, {0, 0, 401, 0},
            {0, 0, 0, -1}, {0, 0, 0, 1001}};
        named(map, 0, "abc", 1, 3, 9);
        for (int[] w : wrong) {
            check.letters(map, "xy");
            check.due("name", map.name(w[0], w[1], w[2], w[3]), TouchMap.NONE);
            check.due("the tape went", map.name(1, 0, 0, 0), TouchMap.NONE);
        }
        check.due("the old one stays", map.cell(0, 2), 9);
        check.letters(map, "z");
        check.due("edges", map.name(7, 400, 400, 1000), 1);
        check.letters(map, "z");
        check.due("another word now", map.name(0, 0, 0, 0), 1);
        check.due("another word now", map.cell(0, 0), 53);
        check.due("another word now", map.cell(0, 1), TouchMap.NONE);
    }

    private static void cells() {
        TouchMap map = new TouchMap();
        named(map, 3, "abc", 1, 3, 9);
        check.due("cell(3, -1)", map.cell(3, -1), TouchMap.NONE);
        check.due("cell(-1, 0)", map.cell(-1, 0), TouchMap.NONE);
        check.due("cell(8, 0)", map.cell(8, 0), TouchMap.NONE);
        check.due("cell(2, 0)", map.cell(2, 0), TouchMap.NONE);
        check.due("erase(2)", map.erase(2), false);
        check.due("erase(-1)", map.erase(-1), false);
        check.due("erase(8)", map.erase(8), false);
        check.due("erase(3)", map.erase(3), true);
        check.due("erased", map.cell(3, 0), TouchMap.NONE);
        check.due("erase(3)", map.erase(3), false);
        named(map, 3, "c", 9);
        check.due("erase(3)", map.erase(3), true);
    }
}

/** Counts and prints the answers that are not the ones due. */
class Check {
    private int wrong;

    void due(String call, long got, long want) {
        if (got != want) {
            wrong++;
            System.out.println(call + " answered " + got + ", due is " + want);
        }
    }

    void due(String call, boolean got, boolean want) {
        due(call, got ? 1 : 0, want ? 1 : 0);
    }

    void end() {
        System.out.println(wrong == 0 ? "all answers are as due" : wrong + " answers are not as due");
        if (wrong != 0) {
            System.exit(1);
        }
    }

    /** Begins way w with these points (x, y, x, y, ..). */
    void points(TouchMap map, int w, int worth, boolean danger, int... places) {
        due("way(" + w + ")", map.way(w, worth, danger), true);
        for (int i = 0; i + 1 < places.length; i += 2) {
            due("point " + i / 2 + " of way " + w, map.point(w, places[i], places[i + 1]), i / 2 + 1);
        }
    }

    void letters(TouchMap map, String word) {
        for (int i = 0; i < word.length(); i++) {
            due("letter " + i + " of " + word, map.letter(word.charAt(i)), i + 1);
        }
    }
}

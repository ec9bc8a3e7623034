/** A map with something of all, and a look at all that a map tells. */
final class Bench {
    private Bench() { }

    /** Each keep(), set() or lay() from now on would tell something else than the last one did. Some 60 calls. */
    static TouchMap full(String tape) {
        TouchMap map = new TouchMap();
        points(map, 0, 5, false, 0, 0, 10, 1, 20, 0, 30, 40);
        map.simple(0, 1);
        points(map, 1, 7, true, 0, 100, 100, 100);
        points(map, 2, 9, false, 0, 105, 100, 105);
        map.way(3, 1, false);
        map.keep();
        map.gap(5);
        type(map, "th");
        map.contract(4, 40);
        type(map, "the");
        map.name(0, 100, 200, 3);
        type(map, "at");
        map.name(1, 102, 200, 4);
        map.set();
        map.erase(1);
        type(map, "zoo");
        map.name(2, 300, 300, 1);
        map.touch(0, 1, true);
        map.apart(0, 1, true);
        map.lay(3);
        map.touch(0, 2, true);
        type(map, tape);
        return map;
    }

    private static void points(TouchMap map, int w, int worth, boolean danger, int... places) {
        map.way(w, worth, danger);
        for (int i = 0; i + 1 < places.length; i += 2) {
            map.point(w, places[i], places[i + 1]);
        }
    }

    private static void type(TouchMap map, String word) {
        for (int i = 0; i < word.length(); i++) {
            map.letter(word.charAt(i));
        }
    }

    /** What it holds, and then what it finds; some 150 calls, which change it. */
    static String look(TouchMap map) {
        StringBuilder seen = new StringBuilder();
        for (int w = 0; w < 4; w++) {
            for (int k = 0; k < 5; k++) {
                seen.append(map.drawn(w, k)).append(map.turn(w, k)).append(' ');
            }
            for (int b = 0; b < w; b++) {
                seen.append(map.near(w, b)).append(map.crossings(w, b)).append(' ');
            }
        }
        lookAtFound(map, seen);
        seen.append(" keep ").append(map.keep()).append(" set ").append(map.set());
        seen.append(" lay ").append(map.lay(3)).append(" gap ").append(map.gap(7));
        lookAtFound(map, seen);
        seen.append(" tape ").append(map.letter('q')).append(map.name(2, 1, 1, 1));
        lookAtWord(map, 2, seen);
        return seen.toString();
    }

    private static void lookAtFound(TouchMap map, StringBuilder seen) {
        seen.append(" kept ");
        for (int w = 0; w < 4; w++) {
            seen.append(map.kept(w));
        }
        seen.append(" names ");
        for (int n = 0; n < 4; n++) {
            seen.append(map.spot(n)).append(' ');
            lookAtWord(map, n, seen);
        }
        seen.append(" textures ");
        for (int a = 0; a < 4; a++) {
            seen.append(map.texture(a));
        }
    }

    private static void lookAtWord(TouchMap map, int n, StringBuilder seen) {
        for (int i = 0; i < 5; i++) {
            seen.append(map.cell(n, i)).append(',');
        }
    }
}

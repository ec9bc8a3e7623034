import java.io.IOException;
import java.nio.file.Files;
import java.nio.file.Path;

/** What the document says ahead of its terms and around them, sentence by sentence: the bench as a whole, and its face. */
final class SentencesOfTheBench {
    private static final String ABOUT = "What it is";
    private static final String FACE = "The public face";
    private static final int CALLS = 512;
    private static final String[] HEADS = {
        "TouchMap()",
        "boolean way(int w, int worth, boolean danger)",
        "int point(int w, int x, int y)",
        "int simple(int w, int t)",
        "int drawn(int w, int k)",
        "int turn(int w, int k)",
        "int gap(int g)",
        "int near(int a, int b)",
        "int crossings(int a, int b)",
        "int keep()",
        "int kept(int w)",
        "int letter(int c)",
        "boolean contract(int k, int cell)",
        "int name(int n, int x, int y, int worth)",
        "boolean erase(int n)",
        "int cell(int n, int i)",
        "int set()",
        "int spot(int n)",
        "boolean touch(int a, int b, boolean is)",
        "boolean apart(int t, int u, boolean is)",
        "int lay(int n)",
        "int texture(int a)"
    };

    private SentencesOfTheBench() { }

    static void test(Sentences s) throws IOException {
        String source = Files.readString(Path.of("src/main/java/TouchMap.java"));
        waysByAToldMiss(s);
        leftOutByWorth(s);
        namesBesideTheirPoints(s);
        areasToldApart(s);
        atMost512Calls(s);
        theClass(s, source);
        theCalls(s, source);
        constants(s);
        headings(s, source);
    }

    private static void waysByAToldMiss(Sentences s) {
        s.says(ABOUT, "A bench for maps that are read by fingers: ways are drawn with as few points as a told miss allows, all exactly;");
        TouchMap map = new TouchMap();
        // the point between is 200 / sqrt(319201) off, less than a half
        s.points(map, 0, 1, false, 0, 0, 200, 200, 399, 400);
        s.due("a half is not within 0", map.simple(0, 0), 3);
        s.due("but within 1", map.simple(0, 1), 2);
        // from the middle of a line along 4, -3 it is 7 times 3, 4: just 35 off
        s.points(map, 1, 1, false, 40, 200, 40 + 80 + 21, 200 - 60 + 28, 200, 80);
        s.due("just the miss", map.simple(1, 35), 2);
        s.due("one less", map.simple(1, 34), 3);
    }

    private static void leftOutByWorth(Sentences s) {
        s.says(ABOUT, "what comes too near to something else is left out by worth, danger never;");
        TouchMap map = new TouchMap();
        s.points(map, 0, 3, false, 0, 10, 100, 10);
        s.points(map, 1, 4, false, 0, 15, 100, 15);
        s.points(map, 2, 1000, false, 0, 200, 100, 200);
        s.points(map, 3, 0, true, 0, 205, 100, 205);
        s.due("keep()", map.keep(), 4);
        s.due("the lesser worth", map.kept(0), 0);
        s.due("the greater worth", map.kept(1), 1);
        s.due("too near to a danger", map.kept(2), 0);
        s.due("the danger", map.kept(3), 1);
    }

    private static void namesBesideTheirPoints(Sentences s) {
        s.says(ABOUT, "names are put into dots by contractions, in as few cells as can be, and set beside their points where they cover nothing;");
        TouchMap map = new TouchMap();
        s.letters(map, "ab");
        s.due("ab", map.contract(0, 40), true);
        s.letters(map, "bcd");
        s.due("bcd", map.contract(1, 41), true);
        s.letters(map, "abcd");
        s.due("a-bcd is as few as can be, ab-c-d is not", map.name(0, 200, 200, 6), 2);
        s.due("a", map.cell(0, 0), 1);
        s.due("bcd", map.cell(0, 1), 41);
        s.points(map, 0, 1, false, 210, 0, 210, 400);
        s.points(map, 1, 1, false, 190, 0, 190, 400);
        s.due("keep()", map.keep(), 2);
        s.due("set()", map.set(), 6);
        s.due("between the ways, above or below", map.spot(0), 2);
    }

    private static void areasToldApart(Sentences s) {
        s.says(ABOUT, "and areas get textures that fingers tell apart.");
        TouchMap map = new TouchMap();
        s.due("apart", map.apart(1, 3, true), true);
        s.due("touch", map.touch(0, 1, true), true);
        s.due("lay", map.lay(2), 2);
        s.due("texture", map.texture(0), 1);
        s.due("texture", map.texture(1), 3);
    }

    private static void atMost512Calls(Sentences s) {
        s.says(ABOUT, "An object is used for at most 512 calls after it has been made; what later calls answer is free.");
        TouchMap map = new TouchMap();
        int calls = 0;
        for (int w = 0; w < 12; w++) {
            map.way(w, 1000, false);
            calls++;
            for (int i = 0; i < 20; i++) {
                map.point(w, 20 * i, 30 * w + i % 2);
                calls++;
            }
        }
        for (int n = 0; n < 8; n++) {
            for (int i = 0; i < 12; i++) {
                map.letter('a' + i);
                calls++;
            }
            map.name(n, 200, 30 * n + 15, 1000);
            calls++;
        }
        while (calls < CALLS - 4) {
            map.lay(calls % 9);
            calls++;
        }
        s.due("call 509, keep()", map.keep(), 12000);
        s.due("call 510, set()", map.set(), 8000);
        s.due("call 511, simple(11, 1)", map.simple(11, 1), 2);
        s.due("call 512, spot(7)", map.spot(7), 0);
        // their answers are free, but they do end and do not throw
        for (int i = 0; i < CALLS; i++) {
            Bench.look(map);
        }
    }

    private static void theClass(Sentences s, String source) {
        s.says(FACE, "public final class TouchMap { public static final int NONE = -1;");
        s.due("the class's head", source.contains("\npublic final class TouchMap {\n    public static final int NONE = -1;\n"), true);
        int publics = source.split("\\bpublic\\b", -1).length - 1;
        s.due("nothing else is public", publics, 2 + HEADS.length);
    }

    private static void theCalls(Sentences s, String source) {
        int before = -1;
        for (int i = 0; i < HEADS.length; i++) {
            String head = "public " + HEADS[i];
            s.says(FACE, head + (i < HEADS.length - 1 ? ";" : "; }"));
            int at = source.indexOf("\n    " + head + " {\n");
            s.due("it stands in the class behind the one ahead", at > before, true);
            before = at;
        }
    }

    private static void constants(Sentences s) {
        s.says("The constants: `NONE = -1`: There is none; it is refused.");
        s.due("NONE", TouchMap.NONE, -1);
    }

    private static void headings(Sentences s, String source) {
        s.says("Ahead of the calls `letter`, `contract`, `name`, `erase`, `cell`, `set`, `spot` the interface says: ---- dots.");
        s.due("between kept and letter", stands(source, " kept(", "---- dots", " letter("), true);
        s.says("Ahead of the calls `touch`, `apart`, `lay`, `texture` the interface says: ---- areas.");
        s.due("between spot and touch", stands(source, " spot(", "---- areas", " touch("), true);
    }

    private static boolean stands(String source, String before, String heading, String behind) {
        int at = source.indexOf(heading);
        return source.indexOf(before) >= 0 && source.indexOf(before) < at && at < source.indexOf(behind);
    }
}

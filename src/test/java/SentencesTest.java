import java.io.IOException;
import java.nio.file.Files;
import java.nio.file.Path;

/** Each sentence of the terms and the promises, quoted and tested by itself; that none is left out is tested, too. */
public final class SentencesTest {
    private static final int CALLS = 512;

    private SentencesTest() { }

    public static void main(String[] args) throws IOException {
        Sentences s = new Sentences();
        atMost512Calls(s);
        TermsOfWays.test(s);
        TermsOfDots.test(s);
        constants(s);
        headings(s);
        PromisesOfWays.test(s);
        PromisesOfDots.test(s);
        SentencesOfAreas.test(s);
        s.end();
    }

    private static void atMost512Calls(Sentences s) {
        s.says("What it is", "An object is used for at most 512 calls after it has been made; what later calls answer is free.");
        TouchMap map = new TouchMap();
        int calls = 0;
        for (int w = 0; w < 12; w++) {
            map.way(w, 1000, false);
            calls++;
            for (int i = 0; i < 20; i++) {
                map.point(w, 20 * i, 30 * w + i % 2);
                calls++;
            }
        }
        for (int n = 0; n < 8; n++) {
            for (int i = 0; i < 12; i++) {
                map.letter('a' + i);
                calls++;
            }
            map.name(n, 200, 30 * n + 15, 1000);
            calls++;
        }
        while (calls < CALLS - 4) {
            map.lay(calls % 9);
            calls++;
        }
        s.due("call 509, keep()", map.keep(), 12000);
        s.due("call 510, set()", map.set(), 8000);
        s.due("call 511, simple(11, 1)", map.simple(11, 1), 2);
        s.due("call 512, spot(7)", map.spot(7), 0);
        // their answers are free, but they do end and do not throw
        for (int i = 0; i < CALLS; i++) {
            Bench.look(map);
        }
    }

    private static void constants(Sentences s) {
        s.says("The constants: `NONE = -1`: There is none; it is refused.");
        s.due("NONE", TouchMap.NONE, -1);
    }

    private static void headings(Sentences s) throws IOException {
        String source = Files.readString(Path.of("src/main/java/TouchMap.java"));
        s.says("Ahead of the calls `letter`, `contract`, `name`, `erase`, `cell`, `set`, `spot` the interface says: ---- dots.");
        s.due("between kept and letter", stands(source, " kept(", "---- dots", " letter("), true);
        s.says("Ahead of the calls `touch`, `apart`, `lay`, `texture` the interface says: ---- areas.");
        s.due("between spot and touch", stands(source, " spot(", "---- areas", " touch("), true);
    }

    private static boolean stands(String source, String before, String heading, String behind) {
        int at = source.indexOf(heading);
        return source.indexOf(before) >= 0 && source.indexOf(before) < at && at < source.indexOf(behind);
    }
}

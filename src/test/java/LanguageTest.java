import java.io.IOException;
import java.lang.reflect.Constructor;
import java.lang.reflect.Field;
import java.lang.reflect.Member;
import java.lang.reflect.Method;
import java.lang.reflect.Modifier;
import java.nio.file.Files;
import java.nio.file.Path;
import java.util.Arrays;
import java.util.List;
import java.util.Set;
import java.util.TreeSet;
import java.util.regex.Matcher;
import java.util.regex.Pattern;

/** The face of the document, and those rules of LANGUAGE.md that can be seen without reading the code. */
public final class LanguageTest {
    private static final Check check = new Check();
    private static final List<String> FACE = List.of(
        "boolean way(int, int, boolean)", "int point(int, int, int)", "int simple(int, int)", "int drawn(int, int)",
        "int turn(int, int)", "int gap(int)", "int near(int, int)", "int crossings(int, int)", "int keep()",
        "int kept(int)", "int letter(int)", "boolean contract(int, int)", "int name(int, int, int, int)",
        "boolean erase(int)", "int cell(int, int)", "int set()", "int spot(int)", "boolean touch(int, int, boolean)",
        "boolean apart(int, int, boolean)", "int lay(int)", "int texture(int)");

    public static void main(String[] args) throws IOException {
        face();
        classesInside();
        words();
        check.end();
    }

    private static String signature(Method m) {
        StringBuilder text = new StringBuilder(m.getReturnType() + " " + m.getName() + "(");
        for (Class<?> type : m.getParameterTypes()) {
            text.append(text.charAt(text.length() - 1) == '(' ? "" : ", ").append(type);
        }
        return text.append(")").toString();
    }

    private static void face() {
        Set<String> found = new TreeSet<>();
        for (Method m : TouchMap.class.getDeclaredMethods()) {
            if (!Modifier.isPrivate(m.getModifiers())) {
                check.due(m + " is public alone", m.getModifiers(), Modifier.PUBLIC);
                found.add(signature(m));
            }
        }
        check.due("the face's methods: " + found, found.equals(new TreeSet<>(FACE)), true);
        for (Field f : TouchMap.class.getDeclaredFields()) {
            check.due(f + " is private", Modifier.isPrivate(f.getModifiers()), !f.getName().equals("NONE"));
        }
        Constructor<?>[] made = TouchMap.class.getDeclaredConstructors();
        check.due("one constructor", made.length, 1);
        check.due("public", made[0].getModifiers(), Modifier.PUBLIC);
        check.due("without parameters", made[0].getParameterCount(), 0);
        check.due("the class", TouchMap.class.getModifiers(), Modifier.PUBLIC | Modifier.FINAL);
        check.due("NONE", TouchMap.NONE, -1);
    }

    private static void classesInside() {
        Class<?>[] inside = TouchMap.class.getDeclaredClasses();
        check.due("at most twelve classes", inside.length + 1 <= 12, true);
        for (Class<?> type : inside) {
            check.due(type + " is static", Modifier.isStatic(type.getModifiers()), true);
            look(type);
        }
        look(TouchMap.class);
    }

    private static void look(Class<?> type) {
        long own = Arrays.stream(type.getDeclaredFields()).filter(f -> !Modifier.isStatic(f.getModifiers())).count();
        check.due(type + " has at most twenty fields", own <= 20, true);
        for (Field f : type.getDeclaredFields()) {
            check.due(f + " is final if static", !isStatic(f) || Modifier.isFinal(f.getModifiers()), true);
        }
        for (Method m : type.getDeclaredMethods()) {
            check.due(m + " has at most seven parameters", m.getParameterCount() <= 7, true);
            boolean named = FACE.stream().anyMatch(s -> s.contains(" " + m.getName() + "("));
            check.due(m + " has a name of the face", named, Modifier.isPublic(m.getModifiers()));
        }
    }

    private static boolean isStatic(Member member) {
        return Modifier.isStatic(member.getModifiers());
    }

    private static void words() throws IOException {
        String source = Files.readString(Path.of("src/main/java/TouchMap.java"));
        String code = source.replaceAll("(?s)/\\*.*?\\*/", " ").replaceAll("//[^\\n]*", " ");
        String[] banned = {"throw", "throws", "try", "catch", "finally", "synchronized", "assert", "import", "package",
            "->", "::", "Random", "Thread", "nanoTime", "currentTimeMillis", "Exact\\("};
        for (String word : banned) {
            String bound = Character.isLetter(word.charAt(0)) ? "\\b" : "";
            Matcher matcher = Pattern.compile(bound + word + (word.endsWith("\\(") ? "" : bound)).matcher(code);
            check.due("'" + word + "' in the code", matcher.find(), false);
        }
        check.due("characters 0 to 255", source.chars().allMatch(c -> c < 256), true);
    }
}

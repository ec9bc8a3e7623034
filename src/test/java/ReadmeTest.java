import java.io.IOException;
import java.lang.reflect.Method;
import java.lang.reflect.Modifier;
import java.nio.file.Files;
import java.nio.file.Path;
import java.util.regex.Matcher;
import java.util.regex.Pattern;

/** What README.md shows is what the class answers, and each call stands in its table. */
public final class ReadmeTest {
    private static final Check check = new Check();
    private static final Pattern CALL = Pattern.compile("map\\.(\\w+)\\(([^)]*)\\);");
    private static final Pattern TOLD = Pattern.compile("// (-?\\d+|true|false)\\b");

    public static void main(String[] args) throws ReflectiveOperationException, IOException {
        String readme = Files.readString(Path.of("README.md"));
        int from = readme.indexOf("```java");
        int to = readme.indexOf("```", from + 1);
        check.due("there is an example", from >= 0 && to > from, true);
        if (to > from) {
            example(readme.substring(from, to));
        }
        for (Method m : TouchMap.class.getDeclaredMethods()) {
            if (Modifier.isPublic(m.getModifiers())) {
                check.due(m.getName() + " in the table", readme.contains("\n| `" + m.getName() + "("), true);
            }
        }
        check.end();
    }

    /** What a comment tells is the answer of the last call ahead of it on its line. */
    private static void example(String code) throws ReflectiveOperationException {
        TouchMap map = new TouchMap();
        int told = 0;
        for (String line : code.split("\n")) {
            Object answer = null;
            Matcher call = CALL.matcher(line);
            while (call.find()) {
                answer = answer(map, call.group(1), call.group(2));
            }
            Matcher comment = TOLD.matcher(line);
            if (comment.find()) {
                check.due(line.strip() + " (it is " + answer + ")", comment.group(1).equals(String.valueOf(answer)), true);
                told++;
            }
        }
        check.due("answers told", told > 0, true);
    }

    private static Object answer(TouchMap map, String name, String given) throws ReflectiveOperationException {
        for (Method m : TouchMap.class.getDeclaredMethods()) {
            if (Modifier.isPublic(m.getModifiers()) && m.getName().equals(name)) {
                String[] texts = given.isBlank() ? new String[0] : given.split(", *");
                Object[] values = new Object[texts.length];
                for (int i = 0; i < texts.length; i++) {
                    values[i] = value(texts[i]);
                }
                return m.invoke(map, values);
            }
        }
        return "no call";
    }

    private static Object value(String text) {
        if (text.equals("true") || text.equals("false")) {
            return Boolean.valueOf(text);
        }
        return text.startsWith("'") ? (int) text.charAt(1) : Integer.valueOf(text);
    }
}

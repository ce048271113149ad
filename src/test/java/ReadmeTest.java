import java.lang.reflect.InvocationTargetException;
import java.lang.reflect.Method;
import java.lang.reflect.Modifier;
import java.nio.file.Files;
import java.nio.file.Path;
import java.util.HashMap;
import java.util.HashSet;
import java.util.Map;
import java.util.Set;
import java.util.regex.Matcher;
import java.util.regex.Pattern;

/** The example of README.md, line by line: the answer behind each call is the one that the class gives. */
public final class ReadmeTest {
    private static final Check CHECK = new Check();
    private static final Pattern LINE = Pattern.compile("(?:int (\\w+) = )?sky\\.(\\w+)\\(([^)]*)\\);\\s+// (-?\\w+).*");

    private final MoonRelay sky = new MoonRelay();
    private final Map<String, Object> names = new HashMap<>();
    private final Set<String> called = new HashSet<>();

    public static void main(String[] args) throws Exception {
        new ReadmeTest().play(Files.readString(Path.of("README.md")));
        CHECK.finish("ReadmeTest");
    }

    private void play(String readme) throws Exception {
        String example = readme.substring(readme.indexOf("```java") + "```java".length());
        example = example.substring(0, example.indexOf("```")).strip();
        String[] lines = example.split("\n");
        CHECK.due("the first line", "MoonRelay sky = new MoonRelay();", () -> lines[0]);
        for (int i = 1; i < lines.length; i++) {
            call(lines[i]);
        }
        for (Method m : MoonRelay.class.getDeclaredMethods()) {
            if (Modifier.isPublic(m.getModifiers())) {
                CHECK.due("the example calls " + m.getName(), true, () -> called.contains(m.getName()));
                CHECK.due("the table tells " + m.getName(), true, () -> readme.contains("| `" + m.getName() + "("));
            }
        }
    }

    private void call(String line) throws Exception {
        Matcher found = LINE.matcher(line);
        boolean matches = found.matches();
        CHECK.due(line + " is a call with its answer", true, () -> matches);
        if (!matches) {
            return;
        }
        Object answer = answerOf(found.group(2), found.group(3));
        CHECK.due(line, found.group(4), () -> String.valueOf(answer));
        if (found.group(1) != null) {
            names.put(found.group(1), answer);
        }
    }

    private Object answerOf(String name, String told) throws Exception {
        String[] words = told.split(", ");
        Object[] numbers = new Object[words.length];
        for (int i = 0; i < words.length; i++) {
            numbers[i] = valueOf(words[i]);
        }
        for (Method m : MoonRelay.class.getDeclaredMethods()) {
            if (m.getName().equals(name) && m.getParameterCount() == numbers.length) {
                called.add(name);
                try {
                    return m.invoke(sky, numbers);
                } catch (InvocationTargetException e) {
                    return "throws." + e.getCause().getClass().getSimpleName();
                }
            }
        }
        return "no such call";
    }

    private Object valueOf(String word) {
        if (word.equals("true") || word.equals("false")) {
            return Boolean.valueOf(word);
        }
        return names.containsKey(word) ? names.get(word) : Integer.valueOf(word);
    }
}

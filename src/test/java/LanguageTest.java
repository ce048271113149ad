import java.lang.reflect.Constructor;
import java.lang.reflect.Field;
import java.lang.reflect.Method;
import java.lang.reflect.Modifier;
import java.nio.file.Files;
import java.nio.file.Path;
import java.util.List;
import java.util.TreeSet;

/** The face as the document writes it, and those rules of LANGUAGE.md that can be seen from outside. */
public final class LanguageTest {
    private static final Check CHECK = new Check();

    private static final String[] FACE = {
        "int plane(int, int, int) IllegalStateException IllegalArgumentException UnsupportedOperationException",
        "int post(int, int, int) IllegalStateException IllegalArgumentException UnsupportedOperationException",
        "int over(int, int) IndexOutOfBoundsException IllegalArgumentException",
        "boolean dead(int, boolean) IndexOutOfBoundsException",
        "int link(int, int, int) IndexOutOfBoundsException IllegalArgumentException",
        "boolean sees(int, int, int) IndexOutOfBoundsException IllegalArgumentException",
        "int earliest(int, int, int) IndexOutOfBoundsException IllegalArgumentException",
        "int late(int, int, boolean) IndexOutOfBoundsException",
        "int meets(int) IndexOutOfBoundsException",
        "int part(int, int, int) IndexOutOfBoundsException IllegalArgumentException",
        "int send(int, int) IndexOutOfBoundsException IllegalArgumentException UnsupportedOperationException",
        "int steps(int) IllegalArgumentException",
        "int look(int, int) IndexOutOfBoundsException NoSuchElementException",
        "int count(int)"
    };

    private static final String[] RULED_OUT = {
        "catch", "finally", "synchronized", "assert ", "->", "::", "Exact(", "instanceof", "static {",
        "System.", "Object", "package ", "double", "float", "protected ", "@Override"
    };

    public static void main(String[] args) throws Exception {
        face();
        members();
        fieldsOfAllClasses();
        source();
        CHECK.finish("LanguageTest");
    }

    private static void face() {
        TreeSet<String> want = new TreeSet<>(List.of(FACE));
        TreeSet<String> got = new TreeSet<>();
        for (Method m : MoonRelay.class.getDeclaredMethods()) {
            if (Modifier.isPublic(m.getModifiers())) {
                got.add(told(m));
            }
        }
        CHECK.due("the public methods", want, () -> got);
        CHECK.due("public final", Modifier.PUBLIC | Modifier.FINAL, () -> MoonRelay.class.getModifiers());
        Constructor<?>[] made = MoonRelay.class.getDeclaredConstructors();
        CHECK.due("constructors", 1, () -> made.length);
        CHECK.due("of no parameters", 0, () -> made[0].getParameterCount());
    }

    private static String told(Method m) {
        StringBuilder text = new StringBuilder();
        text.append(m.getReturnType().getSimpleName()).append(' ').append(m.getName()).append('(');
        for (int i = 0; i < m.getParameterCount(); i++) {
            text.append(i == 0 ? "" : ", ").append(m.getParameterTypes()[i].getSimpleName());
        }
        text.append(')');
        for (Class<?> thrown : m.getExceptionTypes()) {
            text.append(' ').append(thrown.getSimpleName());
        }
        return text.toString();
    }

    private static void members() {
        TreeSet<String> names = new TreeSet<>();
        for (Method m : MoonRelay.class.getDeclaredMethods()) {
            if (Modifier.isPublic(m.getModifiers())) {
                names.add(m.getName());
            }
        }
        for (Method m : MoonRelay.class.getDeclaredMethods()) {
            boolean isPublic = Modifier.isPublic(m.getModifiers());
            CHECK.due(m.getName() + " is public or private", true,
                    () -> isPublic || Modifier.isPrivate(m.getModifiers()));
            CHECK.due(m.getName() + " bears a name of its own", true, () -> isPublic || !names.contains(m.getName()));
        }
        for (Field f : MoonRelay.class.getDeclaredFields()) {
            CHECK.due(f.getName() + " is private, but for NONE", f.getName().equals("NONE"),
                    () -> !Modifier.isPrivate(f.getModifiers()));
        }
        for (Class<?> inside : MoonRelay.class.getDeclaredClasses()) {
            CHECK.due(inside + " is static", true, () -> Modifier.isStatic(inside.getModifiers()));
            for (Method m : inside.getDeclaredMethods()) {
                CHECK.due(inside + "'s " + m.getName() + " is not named as the face", false,
                        () -> names.contains(m.getName()));
            }
        }
    }

    private static void fieldsOfAllClasses() {
        Class<?>[] inside = MoonRelay.class.getDeclaredClasses();
        CHECK.due("at most twelve classes", true, () -> inside.length <= 11);
        for (Class<?> one : inside) {
            fieldsOf(one);
        }
        fieldsOf(MoonRelay.class);
    }

    private static void fieldsOf(Class<?> one) {
        int fields = 0;
        for (Field f : one.getDeclaredFields()) {
            boolean fixed = Modifier.isStatic(f.getModifiers());
            fields += fixed ? 0 : 1;
            CHECK.due(f + " is final if static", true, () -> !fixed || Modifier.isFinal(f.getModifiers()));
        }
        int number = fields;
        CHECK.due(one + " has at most twenty fields", true, () -> number <= 20);
        for (Method m : one.getDeclaredMethods()) {
            CHECK.due(m + " takes at most seven parameters", true, () -> m.getParameterCount() <= 7);
        }
    }

    private static void source() throws Exception {
        List<String> lines = Files.readAllLines(Path.of("src/main/java/MoonRelay.java"));
        for (int i = 0; i < lines.size(); i++) {
            String line = lines.get(i);
            String where = "line " + (i + 1) + ": ";
            for (String word : RULED_OUT) {
                CHECK.due(where + "no " + word, false, () -> line.contains(word));
            }
            CHECK.due(where + "plain signs", true, () -> line.chars().allMatch(c -> c >= 32 && c < 127));
            if (line.startsWith("import ")) {
                CHECK.due(where + "a class of the rules", true,
                        () -> line.equals("import java.util.Arrays;")
                                || line.equals("import java.util.NoSuchElementException;"));
            }
        }
    }
}

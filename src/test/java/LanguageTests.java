import java.io.IOException;
import java.lang.reflect.Field;
import java.lang.reflect.Method;
import java.lang.reflect.Modifier;
import java.nio.file.Files;
import java.nio.file.Path;
import java.util.ArrayList;
import java.util.Arrays;
import java.util.List;
import java.util.Set;
import java.util.TreeSet;
import java.util.regex.Pattern;

/** What can be counted of the rules of LANGUAGE.md. */
public final class LanguageTests {
    private static final Path SOURCE = Path.of("src/main/java/LevelTables.java");
    private static final List<String> IMPORTS = List.of("java.util.ArrayList", "java.util.List",
            "java.util.Arrays", "java.util.Iterator", "java.util.NoSuchElementException");

    /** Words and signs that stand for what a rule leaves out, each with the rule. */
    private static final String[][] LEFT_OUT = {
        {"2", "->"}, {"2", "::"}, {"3", "Object\\b"}, {"3", "\\bvar\\b"}, {"3", "\\bMap\\b"},
        {"4", "System\\.(?!arraycopy)"}, {"4", "Arrays\\.(?!copyOf\\b|copyOfRange\\b|fill\\b)"},
        {"4", "Exact\\("}, {"5", "static \\{"}, {"6", "\\bfinally\\b"}, {"6", "\\bassert\\b"},
        {"6", "\\bsynchronized\\b"}, {"6", "getMessage"}, {"6", "extends \\w*Exception"},
        {"6", "\\.(?:hashCode|toString|equals)\\("}, {"10", "\" \\+|\\+ \""},
        {"13", "\\bRandom\\b|Math\\.random|\\bThread\\b|nanoTime|currentTimeMillis|java\\.io|java\\.nio"},
    };

    private static final Due DUE = new Due();

    public static void main(String[] args) throws IOException {
        List<Class<?>> classes = new ArrayList<>(List.of(LevelTables.class.getDeclaredClasses()));
        for (Class<?> nested : classes) {
            holds("2: " + nested.getSimpleName() + " is static", Modifier.isStatic(nested.getModifiers()));
            holds("1: " + nested.getSimpleName() + " is not public",
                    (nested.getModifiers() & (Modifier.PUBLIC | Modifier.PROTECTED)) == 0);
        }
        classes.add(LevelTables.class);
        holds("11: some twelve classes", classes.size() <= 12);
        for (Class<?> each : classes) {
            fields(each);
            methods(each);
        }
        privateNames();
        text(Files.readString(SOURCE));
        DUE.finish();
    }

    private static void holds(String rule, boolean isKept) {
        DUE.compare("rule " + rule, "true", Boolean.toString(isKept));
    }

    private static void fields(Class<?> each) {
        int count = 0;
        for (Field field : each.getDeclaredFields()) {
            boolean isStatic = Modifier.isStatic(field.getModifiers());
            holds("5: " + field + " is final", !isStatic || Modifier.isFinal(field.getModifiers()));
            count += isStatic ? 0 : 1;
        }
        holds("11: the fields of " + each.getSimpleName(), count <= 20);
    }

    private static void methods(Class<?> each) {
        for (Method method : each.getDeclaredMethods()) {
            holds("11: the parameters of " + method, method.getParameterCount() <= 7);
        }
    }

    private static void privateNames() {
        Set<String> faces = new TreeSet<>();
        for (Method method : LevelTables.class.getMethods()) {
            faces.add(method.getName());
        }
        for (Method method : LevelTables.class.getDeclaredMethods()) {
            holds("1: the name of " + method,
                    !Modifier.isPrivate(method.getModifiers()) || !faces.contains(method.getName()));
        }
    }

    private static void text(String source) {
        String code = Pattern.compile("/\\*.*?\\*/|//[^\n]*", Pattern.DOTALL).matcher(source).replaceAll("");
        for (String line : code.split("\n")) {
            if (line.startsWith("import ")) {
                holds("4: " + line, IMPORTS.contains(line.substring(7, line.length() - 1)));
            }
            holds("the first one: no package", !line.startsWith("package "));
        }
        for (String[] rule : LEFT_OUT) {
            holds(rule[0] + ": none of " + rule[1], !Pattern.compile(rule[1]).matcher(code).find());
        }
        Arrays.stream(code.split("\n\\s*\n")).forEach(
                part -> holds("11: short methods", part.lines().count() <= 60));
    }
}

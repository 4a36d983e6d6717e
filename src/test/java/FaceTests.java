import java.lang.reflect.Constructor;
import java.lang.reflect.Field;
import java.lang.reflect.Method;
import java.lang.reflect.Modifier;
import java.util.Arrays;
import java.util.Set;
import java.util.TreeSet;
import java.util.stream.Collectors;

/** The face is the document's, and nothing else can be seen from outside. */
public final class FaceTests {
    private static final String[] METHODS = {
        "int feed(int,int,int,int,int) IndexOutOfBoundsException",
        "int end(int) IllegalArgumentException",
        "int put(int,int) IllegalArgumentException,IllegalStateException",
        "int out() IllegalArgumentException,IllegalStateException",
        "int open(int) IllegalArgumentException,IllegalStateException",
        "int close(int) IllegalArgumentException,IllegalStateException",
        "int find(int) IllegalArgumentException,IllegalStateException,NoSuchElementException",
        "int seek(int,boolean) IllegalArgumentException,IllegalStateException,NoSuchElementException",
        "int current(int) IllegalArgumentException,NoSuchElementException",
        "long word(int) NoSuchElementException,IndexOutOfBoundsException",
        "int flush() ",
        "int merge(boolean) ",
        "int check() ",
    };

    public static void main(String[] args) {
        Due due = new Due();
        Set<String> seen = new TreeSet<>();
        for (Method method : LevelTables.class.getDeclaredMethods()) {
            if (!Modifier.isPrivate(method.getModifiers())) {
                seen.add(describe(method));
            }
        }
        due.compare("the methods", new TreeSet<>(Arrays.asList(METHODS)).toString(), seen.toString());
        for (Field field : LevelTables.class.getDeclaredFields()) {
            due.compare(field.getName() + " is private", "true",
                    Boolean.toString(Modifier.isPrivate(field.getModifiers())));
            if (Modifier.isStatic(field.getModifiers())) {
                due.compare(field.getName() + " is final", "true",
                        Boolean.toString(Modifier.isFinal(field.getModifiers())));
            }
        }
        Constructor<?>[] constructors = LevelTables.class.getDeclaredConstructors();
        due.answers("the number of constructors", 1, () -> constructors.length);
        due.answers("the constructor's arguments", 0, () -> constructors[0].getParameterCount());
        due.answers("the class's modifiers", Modifier.PUBLIC | Modifier.FINAL,
                () -> LevelTables.class.getModifiers());
        due.finish();
    }

    private static String describe(Method method) {
        return method.getReturnType() + " " + method.getName() + "(" + names(method.getParameterTypes())
                + ") " + names(method.getExceptionTypes());
    }

    private static String names(Class<?>[] types) {
        return Arrays.stream(types).map(Class::getSimpleName).collect(Collectors.joining(","));
    }
}

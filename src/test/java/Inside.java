import java.lang.reflect.Field;
import java.lang.reflect.Method;
import java.util.List;

/** A look behind the face, for what no answer tells. */
final class Inside {
    static final int DEEPEST = 3;

    private Inside() {
    }

    static Object levelOf(LevelTables x, int level) {
        return ((Object[]) get(x, "levels"))[level];
    }

    @SuppressWarnings("unchecked")
    static List<Object> tablesOf(LevelTables x, int level) {
        return (List<Object>) get(levelOf(x, level), "tables");
    }

    /** A table of the deepest level. */
    static Object tableOf(LevelTables x, int t) {
        return tablesOf(x, DEEPEST).get(t);
    }

    static int[] blocksOf(Object table) {
        return (int[]) get(table, "blocks");
    }

    static long[][] chipOf(LevelTables x) {
        return (long[][]) get(get(x, "chip"), "blocks");
    }

    static int[] takenOf(LevelTables x) {
        return (int[]) get(get(x, "chip"), "taken");
    }

    static int countOf(Object run) {
        return (int) get(run, "count");
    }

    /** How many versions lie in memory and on each level. */
    static int[] layoutOf(LevelTables x) {
        int[] counts = new int[DEEPEST + 2];
        counts[0] = countOf(get(x, "memory"));
        for (int level = 0; level <= DEEPEST; level++) {
            counts[level + 1] = countOf(levelOf(x, level));
        }
        return counts;
    }

    /**
     * Brings the present moment to this one, as outs of keys that have nothing would: 512 calls make
     * at most 256 puts and outs, as each needs a feed, so that the limit of 500 is reached only so.
     */
    static LevelTables letPass(LevelTables x, int moment) {
        set(get(x, "views"), "present", moment);
        return x;
    }

    static Object get(Object object, String field) {
        try {
            return fieldOf(object, field).get(object);
        } catch (ReflectiveOperationException wrong) {
            throw new IllegalStateException(wrong);
        }
    }

    static void set(Object object, String field, Object value) {
        try {
            fieldOf(object, field).set(object, value);
        } catch (ReflectiveOperationException wrong) {
            throw new IllegalStateException(wrong);
        }
    }

    private static Field fieldOf(Object object, String name) throws ReflectiveOperationException {
        Field field = object.getClass().getDeclaredField(name);
        field.setAccessible(true);
        return field;
    }

    static void call(Object object, String name, Object... arguments) {
        try {
            for (Method method : object.getClass().getDeclaredMethods()) {
                if (method.getName().equals(name)) {
                    method.setAccessible(true);
                    method.invoke(object, arguments);
                }
            }
        } catch (ReflectiveOperationException wrong) {
            throw new IllegalStateException(wrong);
        }
    }
}

import java.util.Arrays;
import java.util.NoSuchElementException;
import java.util.Random;

/** Promises 12 and 13 inside: what goes to tables, how deep it gets, and what is left out on the way. */
public final class StorageTests {
    private static final int[] ALLOWED = {4, 8, 16, Integer.MAX_VALUE};

    private static final Due DUE = new Due();

    public static void main(String[] args) {
        DUE.under("What lies in memory goes to tables.", StorageTests::flushEmptiesMemory);
        DUE.under("A step of merging", StorageTests::stepsGoDown);
        DUE.under("or (whole) all of it.", StorageTests::wholeMergeLeavesWhatIsNeeded);
        DUE.under("found for every moment that is seen", StorageTests::whatViewsSeeIsKept);
        DUE.under("with what no moment needs left out: memory", StorageTests::hiddenInMemory);
        DUE.under("with what no moment needs left out: a table", StorageTests::hiddenByAnotherTable);
        DUE.under("with what no moment needs left out: outs", StorageTests::nothingIsToldTwice);
        DUE.under("four levels: room", StorageTests::flushLeavesRoomAlone);
        DUE.under("four levels: no room", StorageTests::flushLeavesNoCrowd);
        DUE.under("a flash chip: its blocks", StorageTests::blocksComeBack);
        DUE.under("sorted tables: the fullest", StorageTests::fullestTable);
        DUE.finish();
    }

    private static void flushEmptiesMemory() {
        LevelTables x = new LevelTables();
        Tapes.lay(x, "a").put(1, 1);
        Tapes.lay(x, "b").put(2, 2);
        layout("two puts", x, 2, 0, 0, 0, 0);
        x.flush();
        layout("flushed", x, 0, 2, 0, 0, 0);
        Tapes.lay(x, "a").put(3, 3);
        Tapes.lay(x, "b").out();
        x.flush();
        layout("one that nobody needs and one that is gone", x, 0, 1, 0, 0, 0);
    }

    private static void stepsGoDown() {
        LevelTables x = new LevelTables();
        Tapes.lay(x, "a").put(1, 1);
        x.flush();
        x.merge(false);
        layout("one step", x, 0, 0, 1, 0, 0);
        Tapes.lay(x, "a").out();
        x.flush();
        layout("gone above what is there", x, 0, 1, 1, 0, 0);
        x.merge(false);
        layout("both are needed no more", x, 0, 0, 0, 0, 0);
        Tapes.lay(x, "b").put(1, 1);
        x.flush();
        for (int step = 0; step < 5; step++) {
            x.merge(false);
        }
        layout("five steps", x, 0, 0, 0, 0, 1);
        Tapes.lay(x, "b").out();
        x.flush();
        x.merge(false);
        layout("the key lies deeper", x, 0, 0, 1, 0, 1);
        x.merge(false);
        x.merge(false);
        layout("down to the deepest", x, 0, 0, 0, 0, 0);
    }

    private static void wholeMergeLeavesWhatIsNeeded() {
        LevelTables x = new LevelTables();
        for (int i = 0; i < 90; i++) {
            Tapes.lay(x, "k" + i % 30);
            if (i % 30 < 10 && i >= 60) {
                x.out();
            } else {
                x.put(i, 1);
            }
            if (i % 4 == 0) {
                x.flush();
            }
        }
        x.flush();
        x.merge(true);
        layout("twenty keys", x, 0, 0, 0, 0, 20);
    }

    private static void whatViewsSeeIsKept() {
        LevelTables x = new LevelTables();
        for (int i = 0; i < 10; i++) {
            Tapes.lay(x, "a").put(i, 1);
            if (i == 3 || i == 4) {
                x.open(i);
            }
        }
        Tapes.lay(x, "a").out();
        x.flush();
        layout("two are seen, and it is gone", x, 0, 3, 0, 0, 0);
        x.close(3);
        x.merge(true);
        layout("one is seen", x, 0, 0, 0, 0, 2);
        x.close(4);
        x.merge(true);
        layout("none is seen", x, 0, 0, 0, 0, 0);
    }

    private static void hiddenInMemory() {
        for (boolean whole : new boolean[] {false, true}) {
            LevelTables x = new LevelTables();
            Tapes.lay(x, "a").put(1, 1);
            Tapes.lay(x, "b").put(2, 2);
            Tapes.lay(x, "c").put(3, 3);
            x.flush();
            Tapes.lay(x, "a").put(4, 4);
            Tapes.lay(x, "c").out();
            x.merge(whole);
            layout("b alone is not hidden", x, 2, 0, whole ? 0 : 1, 0, whole ? 1 : 0);
            DUE.answers("a", 4, () -> Tapes.lay(x, "a").find(-1));
            DUE.refuses("c", NoSuchElementException.class, () -> Tapes.lay(x, "c").find(-1));
            DUE.answers("check", 2, x::check);
        }
        LevelTables seen = new LevelTables();
        Tapes.lay(seen, "a").put(1, 1);
        seen.flush();
        seen.open(0);
        Tapes.lay(seen, "a").put(2, 2);
        seen.merge(true);
        layout("hidden, but seen", seen, 1, 0, 0, 0, 1);
        DUE.answers("what is seen", 1, () -> Tapes.lay(seen, "a").find(0));
        seen.close(0);
        seen.merge(true);
        layout("hidden, and not seen any more", seen, 1, 0, 0, 0, 0);
    }

    /** The table that goes down meets one below it that another table of its own level hides a key of. */
    private static void hiddenByAnotherTable() {
        LevelTables x = new LevelTables();
        Tapes.lay(x, "b").put(1, 1);
        Tapes.lay(x, "d").put(2, 2);
        x.flush();
        x.merge(false);
        Tapes.lay(x, "c").put(3, 3);
        x.flush();
        Tapes.lay(x, "d").put(4, 4);
        x.flush();
        x.open(0);
        Tapes.lay(x, "d").put(5, 5);
        layout("d three times", x, 1, 2, 2, 0, 0);
        x.merge(false);
        layout("d as it is seen, and as it is", x, 1, 1, 2, 0, 0);
        DUE.answers("d as it is seen", 4, () -> Tapes.lay(x, "d").find(0));
        DUE.answers("d", 5, () -> Tapes.lay(x, "d").find(-1));
        DUE.answers("check", 3, x::check);
    }

    private static void nothingIsToldTwice() {
        LevelTables x = new LevelTables();
        Tapes.lay(x, "a").put(1, 1);
        x.open(0);
        Tapes.lay(x, "a").out();
        x.open(1);
        Tapes.lay(x, "a").put(3, 3);
        Tapes.lay(x, "a").out();
        x.flush();
        layout("the first out tells it for both", x, 0, 2, 0, 0, 0);
        x.merge(true);
        Tapes.lay(x, "a").out();
        x.flush();
        layout("nor is it told where the level below does", x, 0, 0, 0, 0, 2);
        x.close(1);
        x.merge(true);
        layout("the present moment needs it", x, 0, 0, 0, 0, 2);
        DUE.answers("what is seen", 1, () -> Tapes.lay(x, "a").find(0));
        DUE.refuses("what is there", NoSuchElementException.class, () -> Tapes.lay(x, "a").find(-1));
        x.close(0);
        x.merge(true);
        layout("nothing is left", x, 0, 0, 0, 0, 0);
    }

    private static void flushLeavesRoomAlone() {
        LevelTables x = new LevelTables();
        for (int i = 0; i < 4; i++) {
            Tapes.lay(x, "k" + i).put(i, 1);
            x.flush();
        }
        layout("four tables", x, 0, 4, 0, 0, 0);
        Tapes.lay(x, "k4").put(4, 1);
        x.flush();
        layout("five tables", x, 0, 4, 1, 0, 0);
    }

    private static void flushLeavesNoCrowd() {
        LevelTables x = new LevelTables();
        for (int i = 0; i < 170; i++) {
            x.feed(i << 24, i, 0, 0, 0);
            x.put(i, 1);
            x.flush();
            for (int level = 0; level <= Inside.DEEPEST; level++) {
                int tables = Inside.tablesOf(x, level).size();
                DUE.compare("level " + level + " has room with " + tables, "true",
                        Boolean.toString(tables <= ALLOWED[level]));
            }
        }
        DUE.compare("the deepest level was reached", "true",
                Boolean.toString(!Inside.tablesOf(x, Inside.DEEPEST).isEmpty()));
    }

    private static void blocksComeBack() {
        for (int seed = 0; seed < 30; seed++) {
            blocksComeBack(new Random(seed));
        }
    }

    private static void blocksComeBack(Random random) {
        LevelTables x = new LevelTables();
        for (int i = 0; i < 110; i++) {
            Tapes.lay(x, "k" + random.nextInt(60)).put(i, 1);
            if (random.nextInt(3) == 0) {
                x.flush();
            }
            if (random.nextInt(9) == 0) {
                x.merge(random.nextInt(5) == 0);
            }
            int used = 0;
            for (int level = 0; level <= Inside.DEEPEST; level++) {
                for (Object table : Inside.tablesOf(x, level)) {
                    used += Inside.blocksOf(table).length;
                }
            }
            DUE.answers("the blocks that are taken", used, () -> Arrays.stream(Inside.takenOf(x)).sum());
        }
    }

    /** A table that is all but full still takes all that is needed of one key: nine versions. */
    private static void fullestTable() {
        LevelTables x = new LevelTables();
        for (int i = 0; i < 31; i++) {
            Tapes.lay(x, "k" + (char) ('A' + i)).put(i, 1);
        }
        for (int view = 0; view <= 7; view++) {
            Tapes.lay(x, "m").put(100 + view, 1);
            x.open(view);
        }
        Tapes.lay(x, "m").put(108, 1);
        Tapes.lay(x, "n").put(109, 1);
        x.flush();
        layout("two tables", x, 0, 41, 0, 0, 0);
        DUE.answers("the versions of the first", 40, () -> Inside.countOf(Inside.tablesOf(x, 0).get(0)));
        for (int view = 0; view <= 7; view++) {
            int seen = view;
            DUE.answers("view " + view, 100 + view, () -> Tapes.lay(x, "m").find(seen));
        }
        DUE.answers("the present one", 108, () -> Tapes.lay(x, "m").find(-1));
        DUE.answers("check", 33, x::check);
    }

    /** Compares the number of versions in memory and on each level. */
    private static void layout(String what, LevelTables x, int... due) {
        DUE.compare(what, Arrays.toString(due), Arrays.toString(Inside.layoutOf(x)));
    }
}

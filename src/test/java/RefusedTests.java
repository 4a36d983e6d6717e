import java.util.NoSuchElementException;
import java.util.function.ToLongFunction;

/**
 * "A call that throws changes nothing, but as said": of two objects with the same calls behind them,
 * one has a call refused, and then both must look the same, but for what is said.
 */
public final class RefusedTests {
    private static final String FORTY = "0123456789012345678901234567890123456789";
    private static final String SIXTY = FORTY + "abcdefghijklmnopqrst";

    private static final Class<IllegalArgumentException> ARGUMENT = IllegalArgumentException.class;
    private static final Class<IllegalStateException> STATE = IllegalStateException.class;
    private static final Class<NoSuchElementException> NONE = NoSuchElementException.class;
    private static final Class<IndexOutOfBoundsException> BOUNDS = IndexOutOfBoundsException.class;

    private static final String NONE_IS_CURRENT = Portrait.current(new LevelTables());

    private final Due due = new Due();
    private Storage storage;
    private boolean isFull;

    public static void main(String[] args) {
        RefusedTests tests = new RefusedTests();
        for (Storage storage : Storage.values()) {
            tests.storage = storage;
            tests.argumentChangesNothing();
            tests.viewChangesNothing();
            tests.nothingFoundLosesCurrent();
            tests.noneCurrentChangesNothing();
            tests.fullEmptiesTheTapeAlone();
        }
        tests.due.finish();
    }

    /** Views 0, 1 and 7 are open, view 0 with nothing; a is current as view 1 sees it. */
    private LevelTables made(String tape) {
        LevelTables x = new LevelTables();
        x.open(0);
        Tapes.lay(x, "a").put(1, 10);
        Tapes.lay(x, "b").put(2, 20);
        x.open(1);
        storage.settle(x);
        Tapes.lay(x, "a").put(3, 30);
        Tapes.lay(x, "b").out();
        Tapes.lay(x, "cccccccccc").put(4, 40);
        x.open(7);
        storage.settle(x);
        Tapes.lay(x, "a").put(6, 50);
        if (isFull) {
            Inside.letPass(x, 500);
        }
        Tapes.lay(x, "a").find(1);
        return Tapes.lay(x, tape);
    }

    /** Refuses the call, and says what it leaves: the tape or an empty one, and whether one is current. */
    private void refuse(String name, String tape, Class<? extends RuntimeException> thrown,
            ToLongFunction<LevelTables> call, boolean tapeStays, boolean currentStays) {
        LevelTables refused = made(tape);
        LevelTables spared = made(tape);
        String what = name + " with " + tape.length() + " bytes in " + storage;
        due.refuses(what, thrown, () -> call.applyAsLong(refused));
        due.answers(what + ": the tape", tapeStays ? tape.length() : 0, () -> Portrait.tapeLength(refused));
        due.compare(what + ": what is current", currentStays ? Portrait.current(spared) : NONE_IS_CURRENT,
                Portrait.current(refused));
        if (!tapeStays) {
            spared.end(0);
        }
        due.compare(what + ": the rest", Portrait.rest(spared), Portrait.rest(refused));
    }

    private void changesNothing(String name, String tape, Class<? extends RuntimeException> thrown,
            ToLongFunction<LevelTables> call) {
        refuse(name, tape, thrown, call, true, true);
    }

    private void argumentChangesNothing() {
        changesNothing("feed", SIXTY, BOUNDS, x -> x.feed(1, 2, 3, 4, 5));
        changesNothing("feed", SIXTY.substring(0, 41), BOUNDS, x -> x.feed(1, 2, 3, 4, 5));
        changesNothing("end(-1)", "abc", ARGUMENT, x -> x.end(-1));
        changesNothing("end(4)", "abc", ARGUMENT, x -> x.end(4));
        changesNothing("end(61)", SIXTY, ARGUMENT, x -> x.end(61));
        for (String tape : new String[] {"a", "b", "new", FORTY}) {
            changesNothing("put(-1, 0)", tape, ARGUMENT, x -> x.put(-1, 0));
            changesNothing("put(0, -1)", tape, ARGUMENT, x -> x.put(0, -1));
            changesNothing("put(0, 1001)", tape, ARGUMENT, x -> x.put(0, 1001));
            changesNothing("find(-2)", tape, ARGUMENT, x -> x.find(-2));
            changesNothing("find(8)", tape, ARGUMENT, x -> x.find(8));
            changesNothing("seek(-2)", tape, ARGUMENT, x -> x.seek(-2, false));
            changesNothing("seek(8)", tape, ARGUMENT, x -> x.seek(8, true));
        }
        for (String tape : new String[] {"", FORTY + "x", SIXTY}) {
            changesNothing("put(0, 0)", tape, ARGUMENT, x -> x.put(0, 0));
            changesNothing("out()", tape, ARGUMENT, LevelTables::out);
            changesNothing("find(-1)", tape, ARGUMENT, x -> x.find(-1));
            changesNothing("find(1)", tape, ARGUMENT, x -> x.find(1));
            changesNothing("find(2), not open", tape, ARGUMENT, x -> x.find(2));
            changesNothing("current(-1)", tape, ARGUMENT, x -> x.current(-1));
            changesNothing("current(4)", tape, ARGUMENT, x -> x.current(4));
            changesNothing("word(-1)", tape, BOUNDS, x -> x.word(-1));
            changesNothing("word(1)", tape, BOUNDS, x -> x.word(1));
        }
        changesNothing("seek(-1)", FORTY + "x", ARGUMENT, x -> x.seek(-1, false));
        changesNothing("seek(2), not open", SIXTY, ARGUMENT, x -> x.seek(2, true));
    }

    private void viewChangesNothing() {
        for (String tape : new String[] {"", "a", FORTY, SIXTY}) {
            changesNothing("open(-1)", tape, ARGUMENT, x -> x.open(-1));
            changesNothing("open(8)", tape, ARGUMENT, x -> x.open(8));
            changesNothing("open(0)", tape, STATE, x -> x.open(0));
            changesNothing("open(7)", tape, STATE, x -> x.open(7));
            changesNothing("close(-1)", tape, ARGUMENT, x -> x.close(-1));
            changesNothing("close(8)", tape, ARGUMENT, x -> x.close(8));
            changesNothing("close(2)", tape, STATE, x -> x.close(2));
            changesNothing("close(6)", tape, STATE, x -> x.close(6));
        }
        for (String tape : new String[] {"a", "b", "new", FORTY}) {
            refuse("find(2), not open", tape, STATE, x -> x.find(2), false, true);
            refuse("find(6), not open", tape, STATE, x -> x.find(6), false, true);
            refuse("seek(2), not open", tape, STATE, x -> x.seek(2, false), false, true);
            refuse("seek(6), not open", tape, STATE, x -> x.seek(6, true), false, true);
        }
        refuse("seek(2), not open", "", STATE, x -> x.seek(2, false), false, true);
    }

    private void nothingFoundLosesCurrent() {
        refuse("find(-1), out", "b", NONE, x -> x.find(-1), false, false);
        refuse("find(0), too early", "a", NONE, x -> x.find(0), false, false);
        refuse("find(1), too early", "cccccccccc", NONE, x -> x.find(1), false, false);
        refuse("find(7), never", FORTY, NONE, x -> x.find(7), false, false);
        refuse("seek(0), too early", "", NONE, x -> x.seek(0, false), false, false);
        refuse("seek(1), behind all", "c", NONE, x -> x.seek(1, false), false, false);
        refuse("seek(1), beyond the last", "b", NONE, x -> x.seek(1, true), false, false);
        refuse("seek(-1), beyond the last", "cccccccccc", NONE, x -> x.seek(-1, true), false, false);
    }

    /** None may be current before the call, too. */
    private void noneCurrentChangesNothing() {
        for (String tape : new String[] {"", "a", SIXTY}) {
            LevelTables refused = Tapes.lay(withNoneCurrent(), tape);
            LevelTables spared = Tapes.lay(withNoneCurrent(), tape);
            due.refuses("current(0) of none", NONE, () -> refused.current(0));
            due.refuses("current(3) of none", NONE, () -> refused.current(3));
            due.refuses("current(4) of none", ARGUMENT, () -> refused.current(4));
            due.refuses("word(0) of none", NONE, () -> refused.word(0));
            due.refuses("word(-1) of none", NONE, () -> refused.word(-1));
            due.answers("the tape", tape.length(), () -> Portrait.tapeLength(refused));
            due.compare("the rest", Portrait.rest(spared), Portrait.rest(refused));
        }
    }

    private LevelTables withNoneCurrent() {
        LevelTables x = made("");
        due.refuses("seek", NONE, () -> x.seek(0, false));
        return x;
    }

    private void fullEmptiesTheTapeAlone() {
        isFull = true;
        for (String tape : new String[] {"a", "b", "new", FORTY}) {
            refuse("put(0, 0), 500 made", tape, STATE, x -> x.put(0, 0), false, true);
            refuse("put(most, 1000), 500 made", tape, STATE, x -> x.put(Integer.MAX_VALUE, 1000), false, true);
            refuse("out(), 500 made", tape, STATE, LevelTables::out, false, true);
            changesNothing("put(-1, 0), 500 made", tape, ARGUMENT, x -> x.put(-1, 0));
            changesNothing("put(0, 1001), 500 made", tape, ARGUMENT, x -> x.put(0, 1001));
        }
        changesNothing("put(0, 0), 500 made", "", ARGUMENT, x -> x.put(0, 0));
        changesNothing("out(), 500 made", SIXTY, ARGUMENT, LevelTables::out);
        isFull = false;
    }
}

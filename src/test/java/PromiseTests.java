import java.util.NoSuchElementException;

/** Promise by promise: ordinary calls, the edges that the document names, and wrong arguments. */
public final class PromiseTests {
    private static final String FORTY = "0123456789012345678901234567890123456789";

    private static final Class<IllegalArgumentException> ARGUMENT = IllegalArgumentException.class;
    private static final Class<IllegalStateException> STATE = IllegalStateException.class;
    private static final Class<NoSuchElementException> NONE = NoSuchElementException.class;
    private static final Class<IndexOutOfBoundsException> BOUNDS = IndexOutOfBoundsException.class;

    private final Due due = new Due();

    public static void main(String[] args) {
        PromiseTests tests = new PromiseTests();
        tests.promise1NewObject();
        tests.promise2Feed();
        tests.promise3End();
        tests.promise4Put();
        tests.promise4PutRefused();
        tests.promise4And5FiveHundred();
        tests.promise5Out();
        tests.promise6Open();
        tests.promise7Close();
        tests.promise8Find();
        tests.promise8FindRefused();
        tests.promise9Seek();
        tests.promise9Order();
        tests.promise9SeekRefused();
        tests.promise10Current();
        tests.promise11Word();
        tests.promise12Flush();
        tests.promise13Merge();
        tests.promise13MergeKeepsWhatIsSeen();
        tests.promise13MergeHidesWhatIsGone();
        tests.promise14Check();
        tests.due.finish();
    }

    private static LevelTables lay(LevelTables x, String key) {
        return Tapes.lay(x, key);
    }

    private static LevelTables with(String... keys) {
        LevelTables x = new LevelTables();
        for (int k = 0; k < keys.length; k++) {
            lay(x, keys[k]).put(k + 1, 10 * (k + 1));
        }
        return x;
    }

    private void promise1NewObject() {
        LevelTables x = new LevelTables();
        due.answers("1: end(0) of an empty tape", 0, () -> x.end(0));
        due.refuses("1: end(1) of an empty tape", ARGUMENT, () -> x.end(1));
        due.answers("1: check", 0, x::check);
        due.refuses("1: seek", NONE, () -> x.seek(-1, false));
        due.refuses("1: current", NONE, () -> x.current(0));
        due.refuses("1: word", NONE, () -> x.word(0));
        for (int view = 0; view < 8; view++) {
            int closed = view;
            due.refuses("1: close", STATE, () -> x.close(closed));
        }
        due.answers("1: the first moment", 0, () -> x.open(0));
    }

    private void promise2Feed() {
        LevelTables x = new LevelTables();
        due.answers("2: first", 20, () -> x.feed(0x80ff0001, -1, 0x01020304, 0x05060708, 0x090a0b0c));
        due.answers("2: second", 40, () -> x.feed(1, 2, 3, 4, 5));
        due.answers("2: up to sixty", 60, () -> x.feed(6, 7, 8, 9, 10));
        due.refuses("2: sixty and more", BOUNDS, () -> x.feed(0, 0, 0, 0, 0));
        due.answers("2: cut to 41", 41, () -> x.end(41));
        due.refuses("2: 41 and more", BOUNDS, () -> x.feed(0, 0, 0, 0, 0));
        due.answers("2: cut to 40", 40, () -> x.end(40));
        due.answers("2: 40 and more", 60, () -> x.feed(0, 0, 0, 0, 0));
        x.end(40);
        x.put(7, 7);
        x.seek(-1, false);
        due.answers("2: bytes 0", 0x80ff0001ffffffffL, () -> x.word(0));
        due.answers("2: bytes 8", 0x0102030405060708L, () -> x.word(8));
        due.answers("2: bytes 16", 0x090a0b0c00000001L, () -> x.word(16));
        due.answers("2: bytes 32", 0x0000000400000005L, () -> x.word(32));
    }

    private void promise3End() {
        LevelTables x = new LevelTables();
        x.feed(0x61626364, 0, 0, 0, 0);
        due.refuses("3: more than there are", ARGUMENT, () -> x.end(21));
        due.refuses("3: less than none", ARGUMENT, () -> x.end(-1));
        due.answers("3: all", 20, () -> x.end(20));
        due.answers("3: some", 3, () -> x.end(3));
        due.refuses("3: more than are left", ARGUMENT, () -> x.end(4));
        x.put(1, 1);
        due.answers("3: the key that is left", 1, () -> lay(x, "abc").find(-1));
        lay(x, "abc");
        due.answers("3: none", 0, () -> x.end(0));
        due.answers("3: the tape is empty", 20, () -> x.feed(0, 0, 0, 0, 0));
    }

    private void promise4Put() {
        LevelTables x = new LevelTables();
        due.answers("4: first", 1, () -> lay(x, "a").put(0, 0));
        due.answers("4: empties the tape", 20, () -> x.feed(0x61000000, 0, 0, 0, 0));
        x.end(1);
        due.answers("4: again", 2, () -> x.put(Integer.MAX_VALUE, 1000));
        due.answers("4: the longest", 3, () -> lay(x, FORTY).put(5, 6));
        due.answers("4: the last put counts", Integer.MAX_VALUE, () -> lay(x, "a").find(-1));
        due.answers("4: size", 1000, () -> x.current(1));
        due.answers("4: the longest is found", 5, () -> lay(x, FORTY).find(-1));
        due.answers("4: two keys", 2, x::check);
    }

    private void promise4PutRefused() {
        LevelTables x = new LevelTables();
        due.refuses("4: no key", ARGUMENT, () -> x.put(0, 0));
        lay(x, "a");
        due.refuses("4: place", ARGUMENT, () -> x.put(-1, 0));
        due.refuses("4: size below", ARGUMENT, () -> x.put(0, -1));
        due.refuses("4: size above", ARGUMENT, () -> x.put(0, 1001));
        due.answers("4: a refused put leaves the tape and the moment", 1, () -> x.put(0, 0));
        lay(x, FORTY + "4");
        due.refuses("4: too long", ARGUMENT, () -> x.put(0, 0));
        due.answers("4: the long tape is left", 41, () -> x.end(41));
    }

    private void promise4And5FiveHundred() {
        LevelTables x = Inside.letPass(with("key1", "key2"), 498);
        due.answers("5: the 499th", 499, () -> lay(x, "key1").out());
        due.answers("4: the 500th", 500, () -> lay(x, "key2").put(302, 1));
        due.refuses("4: the argument comes first", ARGUMENT, () -> lay(x, "a").put(-1, 0));
        due.refuses("4: 500 were made", STATE, () -> x.put(0, 0));
        due.refuses("4: the tape is empty", ARGUMENT, () -> x.put(0, 0));
        due.refuses("5: 500 were made", STATE, () -> lay(x, "key2").out());
        due.refuses("5: the tape is empty", ARGUMENT, () -> x.out());
        due.answers("5: key2 is still there", 302, () -> lay(x, "key2").find(-1));
        due.answers("10: its moment", 500, () -> x.current(2));
        due.answers("12: with 500 made", 1, x::flush);
        due.answers("13: with 500 made", 1, () -> x.merge(true));
        due.answers("14: with 500 made", 1, x::check);
    }

    private void promise5Out() {
        LevelTables x = with("a", "b");
        due.refuses("5: no key", ARGUMENT, x::out);
        lay(x, FORTY + "4");
        due.refuses("5: too long", ARGUMENT, x::out);
        due.answers("5: the tape is left", 0, () -> x.end(0));
        due.answers("5: a key", 3, () -> lay(x, "a").out());
        due.refuses("5: the tape is empty", ARGUMENT, x::out);
        due.refuses("5: it has nothing", NONE, () -> lay(x, "a").find(-1));
        due.answers("5: once more", 4, () -> lay(x, "a").out());
        due.answers("5: a key that never was", 5, () -> lay(x, "c").out());
        due.answers("5: one is left", 1, x::check);
        due.answers("5: put again", 6, () -> lay(x, "a").put(9, 9));
        due.answers("5: it has something again", 9, () -> lay(x, "a").find(-1));
    }

    private void promise6Open() {
        LevelTables x = with("a");
        due.refuses("6: view -1", ARGUMENT, () -> x.open(-1));
        due.refuses("6: view 8", ARGUMENT, () -> x.open(8));
        due.answers("6: view 0", 1, () -> x.open(0));
        lay(x, "a").put(5, 5);
        due.refuses("6: open", STATE, () -> x.open(0));
        due.answers("6: view 7", 2, () -> x.open(7));
        due.answers("6: a refused open changes nothing", 1, () -> lay(x, "a").find(0));
        due.answers("6: view 7 sees the put", 5, () -> lay(x, "a").find(7));
        lay(x, "a").out();
        due.refuses("6: the present one has nothing", NONE, () -> lay(x, "a").find(-1));
        due.answers("6: view 7 still sees", 5, () -> lay(x, "a").find(7));
    }

    private void promise7Close() {
        LevelTables x = with("a");
        x.open(3);
        lay(x, "a").put(5, 5);
        due.refuses("7: view -1", ARGUMENT, () -> x.close(-1));
        due.refuses("7: view 8", ARGUMENT, () -> x.close(8));
        due.refuses("7: not open", STATE, () -> x.close(2));
        due.answers("7: what it saw", 1, () -> x.close(3));
        due.refuses("7: closed", STATE, () -> x.close(3));
        due.refuses("7: no view to find by", STATE, () -> lay(x, "a").find(3));
        due.answers("7: opened anew", 2, () -> x.open(3));
        due.answers("7: sees the new moment", 5, () -> lay(x, "a").find(3));
    }

    private void promise8Find() {
        LevelTables x = with("a", "ab", "b");
        due.answers("8: a", 1, () -> lay(x, "a").find(-1));
        due.answers("8: empties the tape", 0, () -> x.end(0));
        due.answers("8: ab", 2, () -> lay(x, "ab").find(-1));
        due.answers("8: b", 3, () -> lay(x, "b").find(-1));
        due.answers("8: a zero more is another key", 4, () -> lay(x, "a\0").put(44, 0));
        due.answers("8: a", 1, () -> lay(x, "a").find(-1));
        due.answers("8: a with a zero", 44, () -> lay(x, "a\0").find(-1));
        due.refuses("8: a with two zeros", NONE, () -> lay(x, "a\0\0").find(-1));
        due.refuses("8: none is current then", NONE, () -> x.current(0));
        due.answers("8: the tape is empty then", 0, () -> x.end(0));
    }

    private void promise8FindRefused() {
        LevelTables x = with("a");
        lay(x, "a").find(-1);
        due.refuses("8: no key", ARGUMENT, () -> x.find(-1));
        lay(x, "a");
        due.refuses("8: view -2", ARGUMENT, () -> x.find(-2));
        due.refuses("8: view 8", ARGUMENT, () -> x.find(8));
        due.answers("8: the tape is left", 1, () -> x.end(1));
        due.refuses("8: not open", STATE, () -> x.find(0));
        due.refuses("8: the tape is empty", ARGUMENT, () -> x.find(0));
        lay(x, FORTY + "4");
        due.refuses("8: too long, before not open", ARGUMENT, () -> x.find(0));
        due.answers("8: a is still current", 1, () -> x.current(0));
    }

    private void promise9Seek() {
        LevelTables x = with("b", "bb", "d", FORTY);
        due.answers("9: from the beginning", 4, () -> x.seek(-1, false));
        due.answers("9: beyond the empty tape", 4, () -> x.seek(-1, true));
        due.answers("9: the longest itself", 4, () -> lay(x, FORTY).seek(-1, false));
        due.answers("9: beyond the longest", 1, () -> lay(x, FORTY).seek(-1, true));
        due.answers("9: empties the tape", 0, () -> x.end(0));
        due.answers("9: before b", 1, () -> lay(x, "a").seek(-1, true));
        due.answers("9: b itself", 1, () -> lay(x, "b").seek(-1, false));
        due.answers("9: beyond b", 2, () -> lay(x, "b").seek(-1, true));
        due.answers("9: between", 3, () -> lay(x, "bba").seek(-1, false));
        lay(x, "bb").out();
        due.answers("9: over what has nothing", 3, () -> lay(x, "b").seek(-1, true));
        due.answers("9: the length of it", 1, () -> x.current(3));
        due.refuses("9: beyond the last", NONE, () -> lay(x, "d").seek(-1, true));
        due.refuses("9: none is current then", NONE, () -> x.current(0));
        due.answers("9: the tape is empty then", 0, () -> x.end(0));
        x.open(0);
        lay(x, "bc").put(7, 7);
        due.answers("9: the view has no bc", 3, () -> lay(x, "bb").seek(0, false));
        due.answers("9: the present one has", 7, () -> lay(x, "bb").seek(-1, false));
    }

    private void promise9Order() {
        String[] ordered = {"\0", "\0\0", "\0a", "\1", "\u007f", "\u007f\u00ff", "\u0080", "\u0080\0", "\u00ff",
            "\u00ff\0", "\u00ff\u00ff\u00ff\u00ff\u00ff\u00ff\u00ff\u00ff",
            "\u00ff\u00ff\u00ff\u00ff\u00ff\u00ff\u00ff\u00ff\0"};
        LevelTables x = new LevelTables();
        for (int k = ordered.length - 1; k >= 0; k--) {
            lay(x, ordered[k]).put(k, 0);
            if (k % 3 == 0) {
                x.flush();
            }
        }
        for (int k = 0; k < ordered.length; k++) {
            String from = k == 0 ? "" : ordered[k - 1];
            due.answers("9: key " + k + " comes next", k, () -> {
                lay(x, from);
                return x.seek(-1, true);
            });
        }
        due.refuses("9: the last", NONE, () -> lay(x, ordered[ordered.length - 1]).seek(-1, true));
    }

    private void promise9SeekRefused() {
        LevelTables x = with("a");
        lay(x, "a").find(-1);
        due.refuses("9: view -2", ARGUMENT, () -> x.seek(-2, false));
        due.refuses("9: view 8", ARGUMENT, () -> x.seek(8, true));
        due.refuses("9: not open", STATE, () -> lay(x, "a").seek(7, false));
        due.answers("9: the tape is empty", 0, () -> x.end(0));
        lay(x, FORTY + "4");
        due.refuses("9: too long", ARGUMENT, () -> x.seek(-1, false));
        due.answers("9: the tape is left", 41, () -> x.end(41));
        due.answers("9: a is still current", 1, () -> x.current(0));
    }

    private void promise10Current() {
        LevelTables x = with("a", "bcd");
        due.refuses("10: what, before none", ARGUMENT, () -> x.current(4));
        due.refuses("10: none", NONE, () -> x.current(3));
        lay(x, "bcd").find(-1);
        due.refuses("10: what -1", ARGUMENT, () -> x.current(-1));
        due.refuses("10: what 4", ARGUMENT, () -> x.current(4));
        x.open(0);
        lay(x, "bcd").put(99, 99);
        lay(x, "bcd").out();
        x.close(0);
        x.flush();
        x.merge(true);
        due.answers("10: place", 2, () -> x.current(0));
        due.answers("10: size", 20, () -> x.current(1));
        due.answers("10: moment", 2, () -> x.current(2));
        due.answers("10: length", 3, () -> x.current(3));
        due.answers("10: its word", 0x6263640000000000L, () -> x.word(0));
    }

    private void promise11Word() {
        LevelTables x = with("abcdefghij", FORTY);
        due.refuses("11: none, before the index", NONE, () -> x.word(-1));
        lay(x, "abcdefghij").find(-1);
        due.answers("11: from 0", 0x6162636465666768L, () -> x.word(0));
        due.answers("11: from 1", 0x6263646566676869L, () -> x.word(1));
        due.answers("11: from 3", 0x6465666768696a00L, () -> x.word(3));
        due.answers("11: from the last", 0x6a00000000000000L, () -> x.word(9));
        due.refuses("11: behind the last", BOUNDS, () -> x.word(10));
        due.refuses("11: before the first", BOUNDS, () -> x.word(-1));
        lay(x, FORTY).find(-1);
        due.answers("11: from 32", 0x3233343536373839L, () -> x.word(32));
        due.answers("11: from 39", 0x3900000000000000L, () -> x.word(39));
        due.refuses("11: behind the longest", BOUNDS, () -> x.word(40));
    }

    private void promise12Flush() {
        LevelTables x = with("a", "b", "c");
        x.open(0);
        lay(x, "b").out();
        x.feed(0x64000000, 0, 0, 0, 0);
        due.answers("12: two are left", 2, x::flush);
        due.answers("12: the tape stays", 1, () -> x.end(1));
        x.end(0);
        due.answers("12: nothing in memory", 2, x::flush);
        due.refuses("12: b is out", NONE, () -> lay(x, "b").find(-1));
        due.answers("12: the view has b", 2, () -> lay(x, "b").find(0));
        for (int i = 0; i < 60; i++) {
            lay(x, "k" + (char) ('A' + i * 7 % 60)).put(i, i);
            due.answers("12: one more", 3 + i, x::flush);
            due.answers("14: all is whole", 3 + i, x::check);
        }
    }

    private void promise13Merge() {
        LevelTables x = new LevelTables();
        for (int i = 0; i < 80; i++) {
            lay(x, "k" + i % 20).put(i, i);
            if (i % 5 == 4) {
                x.flush();
            }
        }
        for (int step = 0; step < 40; step++) {
            due.answers("13: a step", 20, () -> x.merge(false));
            due.answers("14: whole after a step", 20, x::check);
        }
        lay(x, "k3").out();
        due.answers("13: what lies in memory counts", 19, () -> x.merge(false));
        due.answers("13: wholly", 19, () -> x.merge(true));
        due.answers("13: k4", 64, () -> lay(x, "k4").find(-1));
        due.refuses("13: k3", NONE, () -> lay(x, "k3").find(-1));
    }

    private void promise13MergeKeepsWhatIsSeen() {
        LevelTables x = new LevelTables();
        for (int i = 0; i < 32; i++) {
            lay(x, "a").put(i, 1);
            if (i % 4 == 0) {
                x.open(i / 4);
            }
            if (i % 8 == 7) {
                x.flush();
                x.merge(i == 23);
            }
        }
        x.merge(true);
        for (int view = 0; view < 8; view++) {
            int seen = view;
            due.answers("13: view " + view, 4 * view, () -> lay(x, "a").find(seen));
            due.answers("13: its moment", 4 * view + 1, () -> x.current(2));
        }
        x.close(2);
        x.merge(true);
        due.answers("13: a neighbour of the closed one", 4, () -> lay(x, "a").find(1));
        due.answers("13: the other neighbour", 12, () -> lay(x, "a").find(3));
        due.answers("13: the present one", 31, () -> lay(x, "a").find(-1));
    }

    private void promise13MergeHidesWhatIsGone() {
        LevelTables x = with("a", "b");
        x.flush();
        x.merge(true);
        lay(x, "a").out();
        x.flush();
        for (int step = 0; step < 4; step++) {
            due.refuses("13: gone, however deep the put lies", NONE, () -> lay(x, "a").find(-1));
            due.answers("13: the next one", 2, () -> lay(x, "a").seek(-1, false));
            x.merge(false);
        }
        x.open(0);
        lay(x, "b").out();
        x.flush();
        x.merge(true);
        due.answers("13: seen before it went", 2, () -> lay(x, "b").find(0));
        due.refuses("13: gone now", NONE, () -> lay(x, "b").find(-1));
        due.answers("13: none is left", 0, () -> x.merge(true));
    }

    private void promise14Check() {
        LevelTables x = with("a", "b", "c");
        due.answers("14: in memory", 3, x::check);
        x.flush();
        due.answers("14: in a table", 3, x::check);
        lay(x, "b").out();
        lay(x, "d").out();
        due.answers("14: less one", 2, x::check);
        lay(x, "a").put(8, 8);
        due.answers("14: the same key twice", 2, x::check);
        x.open(0);
        lay(x, "a").out();
        due.answers("14: views do not count", 1, x::check);
        x.merge(true);
        due.answers("14: merged", 1, x::check);
        due.refuses("14: nothing has become current", NONE, () -> x.current(0));
    }
}

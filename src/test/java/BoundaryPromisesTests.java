import java.util.NoSuchElementException;

/** The boundary cases of promises 1 to 14, a test for each sentence that names one. */
public final class BoundaryPromisesTests {
    private static final String FORTY = "0123456789012345678901234567890123456789";
    private static final String HIGHEST = "\u00ff".repeat(40);

    private static final int LEAST = Integer.MIN_VALUE;
    private static final int MOST = Integer.MAX_VALUE;
    private static final int[] NO_VIEWS = {-1, 8, -2, 9, LEAST, MOST, 256, -256};
    private static final int[] NO_VIEWS_TO_LOOK_BY = {-2, 8, -3, 9, LEAST, MOST, 256, -256};

    private static final Class<IllegalArgumentException> ARGUMENT = IllegalArgumentException.class;
    private static final Class<IllegalStateException> STATE = IllegalStateException.class;
    private static final Class<NoSuchElementException> NONE = NoSuchElementException.class;
    private static final Class<IndexOutOfBoundsException> BOUNDS = IndexOutOfBoundsException.class;

    private final Due due = new Due();

    public static void main(String[] args) {
        BoundaryPromisesTests tests = new BoundaryPromisesTests();
        tests.newObjectFeedAndEnd();
        tests.putAndOut();
        tests.openAndClose();
        tests.findAndSeek();
        tests.currentAndWord();
        tests.flushMergeAndCheck();
        tests.due.finish();
    }

    private void newObjectFeedAndEnd() {
        due.under("1: No KEY has anything", this::newHasNoKey);
        due.under("1: the TAPE is empty", this::newTapeIsEmpty);
        due.under("1: A new object beside another", this::newIsApart);
        due.under("2: The 20 bytes of five ints, the highest of each first", this::feedOrder);
        due.under("2: come to the TAPE", this::feedGoesBehind);
        due.under("2: it would have more than 60", this::feedTooMuch);
        due.under("2: Answers its length", this::feedAnswersLength);
        due.under("3: The TAPE keeps its first n bytes", this::endKeepsTheFirst);
        due.under("3: n 0 .. its length: 0", this::endOfNothing);
        due.under("3: n 0 .. its length", this::endOfEachLength);
        due.under("3: n 0 .. its length: refused", this::endRefused);
    }

    private void putAndOut() {
        due.under("4: place 0 or more", this::putPlaces);
        due.under("4: size 0 .. 1000", this::putSizes);
        due.under("4: the greatest of all at once", this::putTheGreatest);
        due.under("4: 500 were made", this::putWhenFull);
        due.under("4: From the next MOMENT on it has these", this::putCountsFromTheNext);
        due.under("5: 500 were made", this::outWhenFull);
        due.under("5: From the next MOMENT on it has nothing", this::outCountsFromTheNext);
        due.under("5: out of a KEY that has nothing", this::outOfNothing);
    }

    private void openAndClose() {
        due.under("6: view 0 .. 7", this::openViews);
        due.under("6: It is OPEN: IllegalStateException", this::openTwice);
        due.under("6: SEES the PRESENT MOMENT. Answers that", this::openAtTheEdges);
        due.under("7: view 0 .. 7", this::closeViews);
        due.under("7: It is not OPEN: IllegalStateException", this::closeTwice);
        due.under("7: Answers the MOMENT that it SAW", this::closeAnswers);
    }

    private void findAndSeek() {
        due.under("8: view -1 .. 7", this::findViews);
        due.under("8: It is not OPEN: IllegalStateException (what is CURRENT stays so)", this::findNotOpen);
        due.under("8: the KEY has nothing for it", this::findNothing);
        due.under("8: none is CURRENT", this::findLosesCurrent);
        due.under("8: the neighbours of a KEY", this::findNeighbours);
        due.under("9: The TAPE: 0 .. 40 bytes", this::seekTapes);
        due.under("9: view -1 .. 7", this::seekViews);
        due.under("9: It is not OPEN: IllegalStateException", this::seekNotOpen);
        due.under("9: no KEY that is not before them", this::seekNothing);
        due.under("9: (beyond: and not the same)", this::seekBeyond);
        due.under("9: none is CURRENT", this::seekLosesCurrent);
        due.under("9: has something for it", this::seekOverWhatHasNothing);
        due.under("9: has something for it: the last of all", this::seekOverAllOthers);
    }

    private void currentAndWord() {
        due.under("10: what 0 .. 3", this::currentNumbers);
        due.under("10: as it was found (whatever came since)", this::currentStays);
        due.under("10: None is: NoSuchElementException", this::currentOfNone);
        due.under("11: 8 bytes of the CURRENT one from i on, zeros behind its end", this::wordsOfEachLength);
        due.under("11: the highest first", this::wordOrder);
        due.under("11: None is: NoSuchElementException", this::wordOfNone);
        due.under("11: i is none of them: IndexOutOfBoundsException", this::wordRefused);
    }

    private void flushMergeAndCheck() {
        due.under("12: What lies in memory goes to tables: nothing", this::flushOfNothing);
        due.under("12: What lies in memory goes to tables: as much as can be", this::flushOfAll);
        due.under("12: What lies in memory goes to tables: one at a time", this::flushOneByOne);
        due.under("13: A step of merging: nothing", this::mergeOfNothing);
        due.under("13: A step of merging, again and again", this::mergeSteps);
        due.under("13: (whole) all of it, for the MOMENTS at both edges", this::mergeKeepsEdges);
        due.under("13: Answers likewise", this::mergeAnswers);
        due.under("14: How many KEYS have something: none, one, all", this::checkCounts);
        due.under("14: going over all there is", this::checkChangesNothing);
    }

    private static LevelTables lay(LevelTables x, String key) {
        return Tapes.lay(x, key);
    }

    private static LevelTables with(String... keys) {
        LevelTables x = new LevelTables();
        for (int k = 0; k < keys.length; k++) {
            lay(x, keys[k]).put(k + 1, 10 * (k + 1));
        }
        return x;
    }

    /** The keys k1, k2 and k3 of so many puts and outs. */
    private static LevelTables withMade(int made) {
        return Inside.letPass(with("k1", "k2", "k3"), made);
    }

    /** A key for each of so many puts, with two calls for each; its place is its number, from 1 on. */
    private static LevelTables withKeys(int puts) {
        LevelTables x = new LevelTables();
        for (int i = 1; i <= puts; i++) {
            layNumber(x, i).put(i, 1);
        }
        return x;
    }

    /** Lays a key of twenty bytes with one call; the order of the keys is not that of the numbers. */
    private static LevelTables layNumber(LevelTables x, int number) {
        x.feed(number * 0x9e3779b9, number, 0, 0, 0);
        return x;
    }

    private void newHasNoKey() {
        LevelTables x = new LevelTables();
        due.answers("check", 0, x::check);
        due.answers("flush", 0, x::flush);
        due.refuses("seek", NONE, () -> x.seek(-1, false));
        due.refuses("seek of a zero", NONE, () -> lay(x, "\0").seek(-1, false));
        due.refuses("find of a zero", NONE, () -> lay(x, "\0").find(-1));
        due.refuses("find of forty zeros", NONE, () -> lay(x, "\0".repeat(40)).find(-1));
        due.refuses("find of the highest", NONE, () -> lay(x, HIGHEST).find(-1));
    }

    private void newTapeIsEmpty() {
        LevelTables x = new LevelTables();
        due.refuses("end(1)", ARGUMENT, () -> x.end(1));
        due.refuses("put", ARGUMENT, () -> x.put(0, 0));
        due.refuses("out", ARGUMENT, x::out);
        due.refuses("find", ARGUMENT, () -> x.find(-1));
        due.answers("end(0)", 0, () -> x.end(0));
        due.answers("feed", 20, () -> x.feed(0, 0, 0, 0, 0));
    }

    private void newIsApart() {
        LevelTables first = with("a", "b");
        first.open(0);
        lay(first, "a").find(-1);
        first.flush();
        first.feed(0, 0, 0, 0, 0);
        LevelTables second = new LevelTables();
        newHasNoKey();
        due.refuses("its tape", ARGUMENT, () -> second.end(1));
        due.refuses("its view", STATE, () -> second.close(0));
        due.refuses("its current one", NONE, () -> second.current(0));
        due.answers("its moment", 1, () -> lay(second, "a").put(7, 7));
        first.end(0);
        due.answers("the first one's key", 1, () -> lay(first, "a").find(-1));
    }

    private void feedOrder() {
        LevelTables x = new LevelTables();
        x.feed(0x80017ffe, -1, 0, LEAST, MOST);
        x.put(1, 1);
        x.seek(-1, false);
        due.answers("a and b", 0x80017ffeffffffffL, () -> x.word(0));
        due.answers("c and d", 0x0000000080000000L, () -> x.word(8));
        due.answers("e", 0x7fffffff00000000L, () -> x.word(16));
        due.answers("the length", 20, () -> x.current(3));
    }

    private void feedGoesBehind() {
        LevelTables x = new LevelTables();
        x.feed(0x01020304, 0x05060708, 9, 9, 9);
        x.end(7);
        x.feed(0x11121314, 0x15161718, 0x191a1b1c, 0x1d1e1f20, 0x21222324);
        due.answers("27 bytes", 27, () -> x.end(27));
        x.put(1, 1);
        x.seek(-1, false);
        due.answers("what was there, and what comes behind it", 0x0102030405060711L, () -> x.word(0));
        due.answers("the end", 0x2021222324000000L, () -> x.word(22));
    }

    private void feedTooMuch() {
        for (int length = 40; length <= 60; length++) {
            LevelTables x = lay(new LevelTables(), FORTY + FORTY.substring(0, length - 40));
            int laid = length;
            if (length == 40) {
                due.answers("40 and 20", 60, () -> x.feed(0, 0, 0, 0, 0));
                continue;
            }
            due.refuses(length + " and 20", BOUNDS, () -> x.feed(0, 0, 0, 0, 0));
            due.refuses(length + " and 20 again", BOUNDS, () -> x.feed(-1, -1, -1, -1, -1));
            due.refuses("a byte more than " + length, ARGUMENT, () -> x.end(laid + 1));
            due.answers("the length that stays", laid, () -> x.end(laid));
            x.end(40);
            x.put(length, 1);
            due.answers("the bytes that stay", length, () -> lay(x, FORTY).find(-1));
            due.answers("a feed right behind", 20, () -> x.feed(0, 0, 0, 0, 0));
        }
    }

    private void feedAnswersLength() {
        LevelTables x = new LevelTables();
        for (int length = 0; length <= 40; length++) {
            x.end(0);
            lay(x, FORTY.substring(0, length));
            due.answers("behind " + length, length + 20, () -> x.feed(0, 0, 0, 0, 0));
        }
    }

    private void endKeepsTheFirst() {
        LevelTables x = lay(new LevelTables(), FORTY + "x".repeat(20));
        x.end(40);
        x.put(1, 1);
        due.answers("forty of sixty", 1, () -> lay(x, FORTY).find(-1));
        lay(x, "abc");
        x.end(1);
        x.put(2, 2);
        due.answers("one of three", 2, () -> lay(x, "a").find(-1));
        due.answers("no byte of the others stays", 0x6100000000000000L, () -> x.word(0));
        lay(x, "abc");
        x.end(2);
        x.feed(0, 0, 0, 0, 0);
        x.end(3);
        x.put(3, 3);
        due.answers("what was cut does not come back", 3, () -> lay(x, "ab\0").find(-1));
    }

    private void endOfNothing() {
        LevelTables x = new LevelTables();
        due.answers("an empty tape", 0, () -> x.end(0));
        due.answers("once more", 0, () -> x.end(0));
        lay(x, FORTY);
        due.answers("a full key", 0, () -> x.end(0));
        due.refuses("nothing is left", ARGUMENT, () -> x.end(1));
        lay(x, FORTY + "x".repeat(20));
        due.answers("a full tape", 0, () -> x.end(0));
        due.answers("and it takes bytes again", 20, () -> x.feed(0, 0, 0, 0, 0));
    }

    private void endOfEachLength() {
        LevelTables x = lay(new LevelTables(), FORTY + "x".repeat(20));
        for (int length = 60; length >= 0; length--) {
            int n = length;
            due.answers("end(" + n + ")", n, () -> x.end(n));
            due.refuses("end(" + (n + 1) + ") behind it", ARGUMENT, () -> x.end(n + 1));
        }
    }

    private void endRefused() {
        LevelTables x = lay(new LevelTables(), FORTY);
        for (int n : new int[] {-1, 41, 60, 61, LEAST, MOST}) {
            due.refuses("end(" + n + ")", ARGUMENT, () -> x.end(n));
            due.answers("the length that stays", 40, () -> x.end(40));
        }
        due.refuses("end(-1)", ARGUMENT, () -> x.end(-1));
        due.answers("put right behind", 1, () -> x.put(4, 4));
        due.answers("the bytes that stay", 4, () -> lay(x, FORTY).find(-1));
    }

    /** A put of these at the next moment, and what is found of it in each storage. */
    private void putIsKept(int place, int size) {
        for (Storage storage : Storage.values()) {
            LevelTables x = with("a", "z");
            due.answers("put(" + place + ", " + size + ")", 3, () -> lay(x, "m").put(place, size));
            storage.settle(x);
            due.answers("place in " + storage, place, () -> lay(x, "m").find(-1));
            due.answers("current place in " + storage, place, () -> x.current(0));
            due.answers("size in " + storage, size, () -> x.current(1));
            due.answers("moment in " + storage, 3, () -> x.current(2));
        }
    }

    /** A refused put leaves the key, the moment and the tape, and one right behind it is made. */
    private void putIsRefused(int place, int size) {
        LevelTables x = with("a");
        lay(x, "a");
        String what = "put(" + place + ", " + size + ")";
        due.refuses(what, ARGUMENT, () -> x.put(place, size));
        due.answers(what + ": the moment stays", 1, () -> x.open(0));
        due.answers(what + ": the tape stays", 1, () -> x.end(1));
        due.answers(what + ": the key stays", 1, () -> x.find(-1));
        due.answers(what + ": its size stays", 10, () -> x.current(1));
        lay(x, "a");
        due.refuses(what + " again", ARGUMENT, () -> x.put(place, size));
        due.answers(what + ": put right behind", 2, () -> x.put(5, 50));
        due.answers(what + ": what it gave", 5, () -> lay(x, "a").find(-1));
    }

    private void putPlaces() {
        putIsKept(0, 1);
        putIsKept(1, 1);
        putIsKept(MOST, 1);
        putIsKept(MOST - 1, 1);
        putIsKept(1 << 30, 1);
        putIsRefused(-1, 1);
        putIsRefused(LEAST, 1);
    }

    private void putSizes() {
        putIsKept(1, 0);
        putIsKept(1, 999);
        putIsKept(1, 1000);
        putIsRefused(1, -1);
        putIsRefused(1, 1001);
        putIsRefused(1, 1024);
        putIsRefused(1, LEAST);
        putIsRefused(1, MOST);
    }

    /** The 500th put has the longest key, the greatest place and the greatest size. */
    private void putTheGreatest() {
        for (Storage storage : Storage.values()) {
            LevelTables x = withMade(499);
            due.answers("put", 500, () -> lay(x, HIGHEST).put(MOST, 1000));
            storage.settle(x);
            due.answers("place in " + storage, MOST, () -> lay(x, HIGHEST).find(-1));
            due.answers("size in " + storage, 1000, () -> x.current(1));
            due.answers("moment in " + storage, 500, () -> x.current(2));
            due.answers("length in " + storage, 40, () -> x.current(3));
            due.answers("bytes in " + storage, -1, () -> x.word(32));
            due.answers("check in " + storage, 4, x::check);
        }
    }

    private void putWhenFull() {
        LevelTables x = withMade(499);
        due.answers("the 500th", 500, () -> lay(x, "k1").put(77, 7));
        due.refuses("the 501st", STATE, () -> lay(x, "k1").put(88, 8));
        due.refuses("it read the tape", ARGUMENT, () -> x.put(88, 8));
        due.answers("the moment stays", 500, () -> x.open(0));
        due.answers("the key stays", 77, () -> lay(x, "k1").find(-1));
        due.refuses("a new key", STATE, () -> lay(x, "new").put(88, 8));
        due.refuses("it has nothing", NONE, () -> lay(x, "new").find(-1));
        due.answers("the count stays", 3, x::check);
    }

    private void putCountsFromTheNext() {
        LevelTables x = new LevelTables();
        x.open(0);
        lay(x, "a").put(1, 1);
        x.open(1);
        lay(x, "a").put(2, 2);
        due.refuses("before the first", NONE, () -> lay(x, "a").find(0));
        due.answers("before the second", 1, () -> lay(x, "a").find(1));
        due.answers("behind the second", 2, () -> lay(x, "a").find(-1));
    }

    private void outWhenFull() {
        LevelTables x = withMade(499);
        due.answers("the 500th", 500, () -> lay(x, "k1").out());
        due.refuses("the 501st", STATE, () -> lay(x, "k2").out());
        due.refuses("it read the tape", ARGUMENT, x::out);
        due.answers("the moment stays", 500, () -> x.open(0));
        due.answers("the key stays", 2, () -> lay(x, "k2").find(-1));
        due.answers("the count stays", 2, x::check);
        due.answers("and is told likewise", 2, x::flush);
    }

    private void outCountsFromTheNext() {
        LevelTables x = with("a");
        x.open(0);
        due.answers("out", 2, () -> lay(x, "a").out());
        x.open(1);
        due.answers("before it", 1, () -> lay(x, "a").find(0));
        due.refuses("at it", NONE, () -> lay(x, "a").find(1));
        due.refuses("behind it", NONE, () -> lay(x, "a").find(-1));
    }

    private void outOfNothing() {
        for (Storage storage : Storage.values()) {
            LevelTables x = new LevelTables();
            due.answers("out in a new object", 1, () -> lay(x, "a").out());
            due.answers("and again", 2, () -> lay(x, "a").out());
            storage.settle(x);
            due.answers("check in " + storage, 0, x::check);
            due.answers("put behind it", 3, () -> lay(x, "a").put(5, 5));
            due.answers("check with one in " + storage, 1, x::check);
            due.answers("out behind it", 4, () -> lay(x, "a").out());
            storage.settle(x);
            due.answers("check with none in " + storage, 0, x::check);
            due.answers("flush with none in " + storage, 0, x::flush);
        }
    }

    private void openViews() {
        for (int view = 0; view <= 7; view++) {
            int allowed = view;
            LevelTables x = with("a");
            due.answers("open(" + view + ")", 1, () -> x.open(allowed));
            due.answers("find(" + view + ")", 1, () -> lay(x, "a").find(allowed));
        }
        LevelTables x = with("a");
        for (int view : NO_VIEWS) {
            due.refuses("open(" + view + ")", ARGUMENT, () -> x.open(view));
        }
        for (int view = 0; view <= 7; view++) {
            int closed = view;
            due.refuses("close(" + view + ") behind refused ones", STATE, () -> x.close(closed));
            due.answers("open(" + view + ") behind refused ones", 1, () -> x.open(closed));
        }
        for (int view : NO_VIEWS) {
            due.refuses("open(" + view + ") with all open", ARGUMENT, () -> x.open(view));
        }
    }

    private void openTwice() {
        for (int v = 0; v <= 7; v++) {
            int view = v;
            LevelTables x = with("a");
            x.open(view);
            lay(x, "a").put(2, 2);
            due.refuses("open(" + v + ") again", STATE, () -> x.open(view));
            due.answers("it sees what it saw", 1, () -> lay(x, "a").find(view));
            due.answers("close(" + v + ")", 1, () -> x.close(view));
            due.answers("open(" + v + ") behind it", 2, () -> x.open(view));
        }
    }

    private void openAtTheEdges() {
        LevelTables x = new LevelTables();
        due.answers("at moment 0", 0, () -> x.open(0));
        lay(x, "a").put(1, 1);
        Inside.letPass(x, 499);
        due.answers("the last put", 500, () -> lay(x, "a").put(500, 1));
        due.answers("at moment 500", 500, () -> x.open(1));
        due.answers("what it sees at 500", 500, () -> lay(x, "a").find(1));
        due.answers("what it saw at 500", 500, () -> x.close(1));
        due.refuses("nothing at 0", NONE, () -> x.seek(0, false));
        due.answers("what it saw at 0", 0, () -> x.close(0));
    }

    private void closeViews() {
        LevelTables x = with("a");
        for (int view = 0; view <= 7; view++) {
            x.open(view);
        }
        for (int view : NO_VIEWS) {
            due.refuses("close(" + view + ")", ARGUMENT, () -> x.close(view));
        }
        for (int view = 0; view <= 7; view++) {
            int open = view;
            due.answers("find(" + view + ") behind refused ones", 1, () -> lay(x, "a").find(open));
            due.answers("close(" + view + ") behind refused ones", 1, () -> x.close(open));
        }
        for (int view : NO_VIEWS) {
            due.refuses("close(" + view + ") with none open", ARGUMENT, () -> x.close(view));
        }
    }

    private void closeTwice() {
        for (int v = 0; v <= 7; v++) {
            int view = v;
            LevelTables x = with("a");
            x.open((view + 1) % 8);
            due.refuses("close(" + v + ") of a new one", STATE, () -> x.close(view));
            x.open(view);
            x.close(view);
            due.refuses("close(" + v + ") again", STATE, () -> x.close(view));
            due.refuses("find(" + v + ")", STATE, () -> lay(x, "a").find(view));
            due.answers("the next view stays open", 1, () -> lay(x, "a").find((view + 1) % 8));
            due.answers("open(" + v + ") right behind", 1, () -> x.open(view));
        }
    }

    private void closeAnswers() {
        LevelTables x = new LevelTables();
        x.open(0);
        lay(x, "a").put(1, 1);
        x.open(7);
        lay(x, "a").put(2, 2);
        due.answers("the moment of view 7, not the present one", 1, () -> x.close(7));
        due.answers("the moment 0 of view 0", 0, () -> x.close(0));
        x.open(7);
        due.answers("opened anew", 2, () -> x.close(7));
    }

    private void findViews() {
        LevelTables x = with("a");
        for (int view = 0; view <= 7; view++) {
            x.open(view);
        }
        lay(x, "a").put(2, 2);
        due.answers("find(-1)", 2, () -> lay(x, "a").find(-1));
        for (int view = 0; view <= 7; view++) {
            int open = view;
            due.answers("find(" + view + ")", 1, () -> lay(x, "a").find(open));
        }
        lay(x, "a");
        for (int view : NO_VIEWS_TO_LOOK_BY) {
            due.refuses("find(" + view + ")", ARGUMENT, () -> x.find(view));
            due.answers("a is still current", 1, () -> x.current(0));
        }
        due.answers("find(-1) right behind, with the same tape", 2, () -> x.find(-1));
    }

    private void findNotOpen() {
        LevelTables x = with("a", "b");
        lay(x, "b").find(-1);
        for (int v = 0; v <= 7; v++) {
            int view = v;
            due.refuses("find(" + v + ")", STATE, () -> lay(x, "a").find(view));
            due.answers("the current place", 2, () -> x.current(0));
            due.answers("the current bytes", 0x6200000000000000L, () -> x.word(0));
        }
        due.answers("find right behind", 1, () -> lay(x, "a").find(-1));
        LevelTables none = with("a");
        due.refuses("find with none current", STATE, () -> lay(none, "a").find(0));
        due.refuses("none is current", NONE, () -> none.current(0));
    }

    private void findNothing() {
        for (Storage storage : Storage.values()) {
            LevelTables x = new LevelTables();
            x.open(0);
            lay(x, "b").put(1, 1);
            x.open(1);
            lay(x, "b").out();
            storage.settle(x);
            due.refuses("before its put in " + storage, NONE, () -> lay(x, "b").find(0));
            due.answers("at its put in " + storage, 1, () -> lay(x, "b").find(1));
            due.refuses("behind its out in " + storage, NONE, () -> lay(x, "b").find(-1));
            due.refuses("a lower key in " + storage, NONE, () -> lay(x, "a").find(1));
            due.refuses("a higher key in " + storage, NONE, () -> lay(x, "c").find(1));
            due.answers("right behind it in " + storage, 1, () -> lay(x, "b").find(1));
        }
    }

    private void findLosesCurrent() {
        LevelTables x = with("a");
        lay(x, "a").find(-1);
        due.refuses("find", NONE, () -> lay(x, "b").find(-1));
        for (int w = 0; w <= 3; w++) {
            int what = w;
            due.refuses("current(" + w + ")", NONE, () -> x.current(what));
        }
        due.refuses("word(0)", NONE, () -> x.word(0));
        lay(x, "a").find(-1);
        due.answers("current again", 1, () -> x.current(0));
    }

    private void findNeighbours() {
        String[] near = {"l", "m\0\0", "l\u00ff", "n", "m\1", "\0", "m\0\u00ff", HIGHEST};
        for (Storage storage : Storage.values()) {
            LevelTables x = with("m", "m\0");
            storage.settle(x);
            for (String other : near) {
                due.refuses("a neighbour in " + storage, NONE, () -> lay(x, other).find(-1));
            }
            due.answers("the shorter in " + storage, 1, () -> lay(x, "m").find(-1));
            due.answers("its length", 1, () -> x.current(3));
            due.answers("the longer in " + storage, 2, () -> lay(x, "m\0").find(-1));
            due.answers("its length", 2, () -> x.current(3));
        }
    }

    private void seekTapes() {
        for (Storage storage : Storage.values()) {
            LevelTables x = with("\0", FORTY, "z");
            storage.settle(x);
            due.answers("no byte in " + storage, 1, () -> x.seek(-1, false));
            due.answers("1 byte in " + storage, 1, () -> lay(x, "\0").seek(-1, false));
            due.answers("40 bytes in " + storage, 2, () -> lay(x, FORTY).seek(-1, false));
            due.answers("39 of them in " + storage, 2, () -> lay(x, FORTY.substring(0, 39)).seek(-1, true));
            due.answers("40 zeros in " + storage, 2, () -> lay(x, "\0".repeat(40)).seek(-1, false));
            for (int more = 1; more <= 20; more++) {
                lay(x, FORTY + "x".repeat(more));
                due.refuses(40 + more + " bytes", ARGUMENT, () -> x.seek(-1, false));
                due.refuses(40 + more + " bytes, beyond", ARGUMENT, () -> x.seek(-1, true));
                x.end(0);
            }
            lay(x, FORTY + "x");
            x.end(40);
            due.answers("40 of 41 bytes in " + storage, 2, () -> x.seek(-1, false));
        }
    }

    private void seekViews() {
        LevelTables x = with("a");
        for (int view = 0; view <= 7; view++) {
            x.open(view);
        }
        lay(x, "a").put(2, 2);
        due.answers("seek(-1)", 2, () -> x.seek(-1, false));
        for (int view = 0; view <= 7; view++) {
            int open = view;
            due.answers("seek(" + view + ")", 1, () -> x.seek(open, true));
        }
        for (int view : NO_VIEWS_TO_LOOK_BY) {
            due.refuses("seek(" + view + ")", ARGUMENT, () -> x.seek(view, false));
            due.refuses("seek(" + view + ", beyond)", ARGUMENT, () -> x.seek(view, true));
            due.answers("a is still current", 1, () -> x.current(0));
        }
        due.answers("seek(-1) right behind", 2, () -> x.seek(-1, false));
    }

    private void seekNotOpen() {
        LevelTables x = with("a", "b");
        lay(x, "b").find(-1);
        for (int v = 0; v <= 7; v++) {
            int view = v;
            due.refuses("seek(" + v + ")", STATE, () -> lay(x, "a").seek(view, view % 2 == 0));
            due.answers("the tape is empty", 0, () -> x.end(0));
            due.refuses("the tape has no byte", ARGUMENT, () -> x.end(1));
            due.answers("the current place", 2, () -> x.current(0));
            due.answers("the current bytes", 0x6200000000000000L, () -> x.word(0));
        }
        due.answers("seek right behind", 1, () -> x.seek(-1, false));
    }

    private void seekNothing() {
        for (Storage storage : Storage.values()) {
            LevelTables x = with("b", "d");
            storage.settle(x);
            due.answers("the last one itself in " + storage, 2, () -> lay(x, "d").seek(-1, false));
            due.refuses("behind the last in " + storage, NONE, () -> lay(x, "d\0").seek(-1, false));
            due.refuses("the highest in " + storage, NONE, () -> lay(x, HIGHEST).seek(-1, false));
            due.answers("just before the last in " + storage, 2, () -> lay(x, "c\u00ff").seek(-1, false));
            due.answers("just behind the first in " + storage, 2, () -> lay(x, "b\0").seek(-1, false));
            lay(x, HIGHEST).put(3, 3);
            storage.settle(x);
            due.answers("the highest itself in " + storage, 3, () -> lay(x, HIGHEST).seek(-1, false));
            due.refuses("beyond the highest in " + storage, NONE, () -> lay(x, HIGHEST).seek(-1, true));
        }
    }

    private void seekBeyond() {
        for (Storage storage : Storage.values()) {
            LevelTables x = with("\0", "\0\0", "b", "b\0");
            lay(x, "b").put(33, 3);
            storage.settle(x);
            due.answers("nothing is the same as no byte in " + storage, 1, () -> x.seek(-1, true));
            due.answers("the same in " + storage, 33, () -> lay(x, "b").seek(-1, false));
            due.answers("beyond the same in " + storage, 4, () -> lay(x, "b").seek(-1, true));
            due.answers("a zero more is not the same in " + storage, 2, () -> lay(x, "\0").seek(-1, true));
            due.answers("beyond what is no key in " + storage, 33, () -> lay(x, "a").seek(-1, true));
            due.refuses("beyond the last in " + storage, NONE, () -> lay(x, "b\0").seek(-1, true));
        }
    }

    private void seekLosesCurrent() {
        LevelTables x = with("a");
        lay(x, "a").find(-1);
        due.refuses("seek", NONE, () -> lay(x, "b").seek(-1, false));
        due.refuses("current", NONE, () -> x.current(0));
        due.refuses("word", NONE, () -> x.word(0));
        due.answers("seek right behind", 1, () -> x.seek(-1, false));
        due.answers("current again", 1, () -> x.current(0));
        due.refuses("seek beyond", NONE, () -> lay(x, "a").seek(-1, true));
        due.refuses("current", NONE, () -> x.current(3));
    }

    private void seekOverWhatHasNothing() {
        for (Storage storage : Storage.values()) {
            LevelTables x = with("a", "b", "c", "d");
            x.open(0);
            lay(x, "a").out();
            lay(x, "b").out();
            lay(x, "d").out();
            storage.settle(x);
            lay(x, "bb").put(9, 9);
            due.answers("the first of view 0 in " + storage, 1, () -> x.seek(0, false));
            due.answers("the first now in " + storage, 9, () -> x.seek(-1, false));
            due.answers("view 0 from bb on in " + storage, 3, () -> lay(x, "bb").seek(0, false));
            due.answers("beyond bb now in " + storage, 3, () -> lay(x, "bb").seek(-1, true));
            due.refuses("from d on in " + storage, NONE, () -> lay(x, "d").seek(-1, false));
            due.answers("view 0 from d on in " + storage, 4, () -> lay(x, "d").seek(0, false));
        }
    }

    private void seekOverAllOthers() {
        for (Storage storage : Storage.values()) {
            LevelTables x = withKeys(120);
            x.open(0);
            for (int i = 1; i <= 120; i++) {
                layNumber(x, i).out();
            }
            lay(x, HIGHEST).put(MOST, 0);
            storage.settle(x);
            due.answers("from no byte in " + storage, MOST, () -> x.seek(-1, false));
            due.answers("beyond a key that has nothing in " + storage, MOST, () -> layNumber(x, 7).seek(-1, true));
            due.answers("view 0 from that key on in " + storage, 7, () -> layNumber(x, 7).seek(0, false));
        }
    }

    private void currentNumbers() {
        LevelTables x = with("abc");
        lay(x, "abc").find(-1);
        int[] due = {1, 10, 1, 3};
        for (int w = 0; w <= 3; w++) {
            int what = w;
            this.due.answers("current(" + w + ")", due[w], () -> x.current(what));
        }
        for (int what : new int[] {-1, 4, LEAST, MOST, 256, -256}) {
            this.due.refuses("current(" + what + ")", ARGUMENT, () -> x.current(what));
        }
        this.due.answers("current(0) right behind", 1, () -> x.current(0));
    }

    private void currentStays() {
        for (Storage storage : Storage.values()) {
            LevelTables x = with("a", "abcdefghi");
            x.open(0);
            lay(x, "abcdefghi").find(0);
            lay(x, "abcdefghi").put(99, 99);
            storage.settle(x);
            isStillCurrent("behind a put in " + storage, x);
            lay(x, "abcdefghi").out();
            x.close(0);
            storage.settle(x);
            isStillCurrent("behind an out and close in " + storage, x);
            x.feed(-1, -1, -1, -1, -1);
            x.end(1);
            isStillCurrent("with another tape", x);
            due.refuses("a view that is not open", STATE, () -> x.find(0));
            isStillCurrent("behind a refused find", x);
            x.check();
            isStillCurrent("behind check", x);
        }
    }

    private void isStillCurrent(String when, LevelTables x) {
        due.answers("place " + when, 2, () -> x.current(0));
        due.answers("size " + when, 20, () -> x.current(1));
        due.answers("moment " + when, 2, () -> x.current(2));
        due.answers("length " + when, 9, () -> x.current(3));
        due.answers("bytes " + when, 0x6869000000000000L, () -> x.word(7));
    }

    private void currentOfNone() {
        LevelTables x = new LevelTables();
        due.refuses("in a new object", NONE, () -> x.current(0));
        due.answers("a put right behind", 1, () -> lay(x, "a").put(1, 1));
        due.refuses("behind a put", NONE, () -> x.current(3));
        lay(x, "a").find(-1);
        due.answers("behind a find", 1, () -> x.current(3));
        due.refuses("a find of nothing", NONE, () -> lay(x, "b").find(-1));
        due.refuses("behind it", NONE, () -> x.current(3));
    }

    private void wordsOfEachLength() {
        for (Storage storage : Storage.values()) {
            for (int length = 1; length <= 40; length++) {
                byte[] key = new byte[length];
                for (int i = 0; i < length; i++) {
                    key[i] = (byte) (200 + i);
                }
                LevelTables x = new LevelTables();
                Tapes.lay(x, key).put(length, 1);
                storage.settle(x);
                Tapes.lay(x, key).find(-1);
                hasWords(storage + ", " + length + " bytes", x, key);
            }
        }
    }

    private void hasWords(String what, LevelTables x, byte[] key) {
        due.answers(what + ": current(3)", key.length, () -> x.current(3));
        due.refuses(what + ": word(-1)", BOUNDS, () -> x.word(-1));
        due.refuses(what + ": word(" + key.length + ")", BOUNDS, () -> x.word(key.length));
        for (int i = 0; i < key.length; i++) {
            int from = i;
            long high = Tapes.fourOf(key, i);
            long low = Tapes.fourOf(key, i + 4) & 0xffffffffL;
            due.answers(what + ": word(" + i + ")", high << 32 | low, () -> x.word(from));
        }
    }

    private void wordOrder() {
        LevelTables x = with("\u0080\1\2\3\4\5\6\7\u00ff");
        x.seek(-1, false);
        due.answers("word(0)", 0x8001020304050607L, () -> x.word(0));
        due.answers("word(1)", 0x01020304050607ffL, () -> x.word(1));
        due.answers("word(8)", 0xff00000000000000L, () -> x.word(8));
    }

    private void wordOfNone() {
        LevelTables x = with("a");
        due.refuses("word(0)", NONE, () -> x.word(0));
        due.refuses("word(-1)", NONE, () -> x.word(-1));
        due.refuses("word(40)", NONE, () -> x.word(40));
        due.answers("find right behind", 1, () -> lay(x, "a").find(-1));
        due.answers("word(0) right behind", 0x6100000000000000L, () -> x.word(0));
    }

    private void wordRefused() {
        LevelTables x = with("abc");
        lay(x, "abc").find(-1);
        for (int i : new int[] {-1, 3, 7, 8, 39, 40, LEAST, MOST, MOST - 7}) {
            due.refuses("word(" + i + ")", BOUNDS, () -> x.word(i));
        }
        due.answers("word(2) right behind", 0x6300000000000000L, () -> x.word(2));
        due.answers("it is still current", 1, () -> x.current(0));
    }

    private void flushOfNothing() {
        LevelTables x = new LevelTables();
        due.answers("a new object", 0, x::flush);
        due.answers("again", 0, x::flush);
        due.answers("the moment stays", 0, () -> x.open(0));
        due.answers("the next put", 1, () -> lay(x, "a").put(1, 1));
        due.answers("one", 1, x::flush);
        due.answers("one, again", 1, x::flush);
        due.answers("it is still there", 1, () -> lay(x, "a").find(-1));
        lay(x, "a").out();
        due.answers("none", 0, x::flush);
        due.answers("none, again", 0, x::flush);
        due.answers("none by check", 0, x::check);
        LevelTables outs = new LevelTables();
        lay(outs, "a").out();
        due.answers("outs alone", 0, outs::flush);
        due.answers("outs alone by check", 0, outs::check);
    }

    private void flushOfAll() {
        LevelTables most = withKeys(255);
        due.answers("255 keys", 255, most::flush);
        due.answers("255 keys by check, the last call", 255, most::check);
        LevelTables keys = withKeys(125);
        due.answers("125 keys", 125, keys::flush);
        for (int i = 1; i <= 125; i++) {
            int nth = i;
            due.answers("key " + i, i, () -> layNumber(keys, nth).find(-1));
        }
        LevelTables one = new LevelTables();
        for (int i = 1; i <= 240; i++) {
            layNumber(one, 1).put(i, 1);
            if (i % 30 == 0) {
                one.open(i / 30 - 1);
            }
        }
        layNumber(one, 1).put(241, 1);
        due.answers("241 of one key", 1, one::flush);
        for (int view = 0; view <= 7; view++) {
            int seen = view;
            due.answers("what view " + view + " sees", 30 * view + 30, () -> layNumber(one, 1).find(seen));
        }
        due.answers("the last", 241, () -> layNumber(one, 1).find(-1));
        due.answers("241 of one key by check", 1, one::check);
    }

    /** Keys that never overlap take a block each, which is as many blocks as can be. */
    private void flushOneByOne() {
        LevelTables x = new LevelTables();
        for (int i = 1; i <= 169; i++) {
            x.feed(i, 0, 0, 0, 0);
            x.put(i, 1);
            due.answers("flush " + i, i, x::flush);
        }
        due.answers("check", 169, x::check);
        due.answers("merge", 169, () -> x.merge(true));
        due.answers("check behind it", 169, x::check);
        x.feed(169, 0, 0, 0, 0);
        due.answers("the last", 169, () -> x.find(-1));
    }

    private void mergeOfNothing() {
        for (boolean whole : new boolean[] {false, true}) {
            LevelTables x = new LevelTables();
            due.answers("a new object", 0, () -> x.merge(whole));
            due.answers("again", 0, () -> x.merge(whole));
            due.answers("the moment stays", 1, () -> lay(x, "a").put(1, 1));
            due.answers("memory alone", 1, () -> x.merge(whole));
            due.answers("it is still there", 1, () -> lay(x, "a").find(-1));
            x.flush();
            lay(x, "a").out();
            due.answers("its out in memory alone", 0, () -> x.merge(whole));
            due.refuses("it is gone", NONE, () -> lay(x, "a").find(-1));
            due.answers("check", 0, x::check);
        }
    }

    private void mergeSteps() {
        LevelTables x = with("a", "b", "c");
        x.flush();
        for (int step = 1; step <= 50; step++) {
            due.answers("step " + step, 3, () -> x.merge(false));
            due.answers("all of it behind step " + step, 3, () -> x.merge(true));
        }
        due.answers("a", 1, () -> lay(x, "a").find(-1));
        due.answers("c", 3, () -> lay(x, "c").find(-1));
        due.answers("check", 3, x::check);
    }

    /** A view at the very moment of a put or an out keeps what it sees, and so does one just before. */
    private void mergeKeepsEdges() {
        for (boolean whole : new boolean[] {false, true}) {
            LevelTables x = new LevelTables();
            x.open(0);
            lay(x, "a").put(1, 1);
            x.open(1);
            lay(x, "a").put(2, 2);
            x.open(2);
            lay(x, "a").out();
            x.open(3);
            lay(x, "a").put(4, 4);
            x.open(4);
            lay(x, "b").put(5, 5);
            x.flush();
            for (int round = 0; round < 5; round++) {
                x.merge(whole);
                due.refuses("before the first put", NONE, () -> lay(x, "a").find(0));
                due.answers("at the first put", 1, () -> lay(x, "a").find(1));
                due.answers("at the second put", 2, () -> lay(x, "a").find(2));
                due.refuses("at the out", NONE, () -> lay(x, "a").find(3));
                due.answers("at the third put", 4, () -> lay(x, "a").find(4));
                due.refuses("b before its put", NONE, () -> lay(x, "b").find(4));
                due.answers("b now", 5, () -> lay(x, "b").find(-1));
            }
        }
    }

    private void mergeAnswers() {
        LevelTables x = with("a", "b", "c");
        x.open(0);
        lay(x, "a").out();
        due.answers("a step, in memory", 2, () -> x.merge(false));
        x.flush();
        due.answers("a step", 2, () -> x.merge(false));
        due.answers("all of it", 2, () -> x.merge(true));
        lay(x, "b").out();
        lay(x, "c").out();
        due.answers("all of it, outs in memory", 0, () -> x.merge(true));
        x.flush();
        due.answers("all of it, none left", 0, () -> x.merge(true));
        due.answers("but for the view", 1, () -> x.seek(0, false));
    }

    private void checkCounts() {
        for (Storage storage : Storage.values()) {
            LevelTables x = new LevelTables();
            due.answers("none in " + storage, 0, () -> storage.settle(x).check());
            lay(x, "a").put(1, 1);
            due.answers("one in " + storage, 1, () -> storage.settle(x).check());
            lay(x, "a").put(2, 2);
            due.answers("one, put again, in " + storage, 1, () -> storage.settle(x).check());
            x.open(0);
            lay(x, "a").out();
            due.answers("one, seen alone, in " + storage, 0, () -> storage.settle(x).check());
            LevelTables all = withKeys(253);
            due.answers("253 in " + storage, 253, () -> storage.settle(all).check());
        }
    }

    private void checkChangesNothing() {
        LevelTables x = with("a", "b");
        x.flush();
        lay(x, "b").out();
        lay(x, "a").find(-1);
        x.open(0);
        lay(x, "c");
        due.answers("check", 1, x::check);
        due.answers("check again", 1, x::check);
        due.answers("what is current", 1, () -> x.current(0));
        due.answers("the tape", 4, () -> x.put(3, 3));
        due.answers("the view", 3, () -> x.close(0));
        due.answers("check behind a put", 2, x::check);
    }
}

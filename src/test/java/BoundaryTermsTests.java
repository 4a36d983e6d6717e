import java.util.NoSuchElementException;
import java.util.function.ToIntFunction;

/** The boundary cases of the heads "What it is" and "Terms", a test for each sentence. */
public final class BoundaryTermsTests {
    private static final String FORTY = "0123456789012345678901234567890123456789";

    private static final Class<IllegalArgumentException> ARGUMENT = IllegalArgumentException.class;
    private static final Class<IllegalStateException> STATE = IllegalStateException.class;
    private static final Class<NoSuchElementException> NONE = NoSuchElementException.class;
    private static final Class<IndexOutOfBoundsException> BOUNDS = IndexOutOfBoundsException.class;

    private final Due due = new Due();

    public static void main(String[] args) {
        BoundaryTermsTests tests = new BoundaryTermsTests();
        tests.tapeTests();
        tests.keyTests();
        tests.momentTests();
        tests.viewTests();
        tests.orderTests();
        tests.due.finish();
    }

    private void tapeTests() {
        due.under("An object is used for at most 512 calls", this::theLastCalls);
        due.under("THE TAPE has at most 60 bytes.", this::tapeOfSixty);
        due.under("A call that reads it leaves it empty", this::readingEmptiesTheTape);
        due.under("unless it throws IllegalArgumentException: put", this::refusedPutLeavesTheTape);
        due.under("unless it throws IllegalArgumentException: out", this::refusedOutLeavesTheTape);
        due.under("unless it throws IllegalArgumentException: find", this::refusedFindLeavesTheTape);
        due.under("unless it throws IllegalArgumentException: seek", this::refusedSeekLeavesTheTape);
        due.under("leaves it empty: IllegalStateException", this::closedViewEmptiesTheTape);
        due.under("leaves it empty: NoSuchElementException", this::nothingFoundEmptiesTheTape);
        due.under("leaves it empty: the calls that do not read it", this::othersLeaveTheTape);
    }

    private void keyTests() {
        due.under("KEYS are 1 .. 40 bytes: put", () -> keyLengths(x -> x.put(5, 5)));
        due.under("KEYS are 1 .. 40 bytes: out", () -> keyLengths(LevelTables::out));
        due.under("KEYS are 1 .. 40 bytes: find", this::keyLengthsOfFind);
        due.under("the order of their first different bytes", this::firstDifferentByteDecides);
        due.under("(0 .. 255)", this::bytesHaveNoSign);
        due.under("a beginning before what goes on", this::beginningComesBefore);
    }

    private void momentTests() {
        due.under("the PRESENT one, 0 at first", this::presentIsNoneAtFirst);
        due.under("rises by 1 with each put and out", this::putAndOutAloneRaiseThePresent);
        due.under("the last put up to it gave it", this::theLastPutUpToAMoment);
        due.under("or nothing, if out was called for it behind that", this::outBehindThat);
        due.under("or there was none", this::neverPut);
        due.under("At most 500 puts and outs can be made in all: puts", () -> fiveHundred(1, 0));
        due.under("At most 500 puts and outs can be made in all: outs", () -> fiveHundred(0, 1));
        due.under("At most 500 puts and outs can be made in all: both", () -> fiveHundred(1, 1));
        due.under("At most 500 can be made: refused ones do not count", this::refusedDoNotCount);
        due.under("At most 500 can be made: merging gives none back", this::mergingGivesNoneBack);
        due.under("At most 500 can be made: all else goes on", this::allElseGoesOn);
    }

    private void viewTests() {
        due.under("VIEWS 0 .. 7 are OPEN or not (at first)", this::viewsAreNotOpenAtFirst);
        due.under("an OPEN one SEES the MOMENT that was the PRESENT one", this::allViewsSeeTheirOwn);
        due.under("two VIEWS of one MOMENT", this::viewsOfOneMoment);
        due.under("A KEY may be CURRENT (none at first)", this::noneIsCurrentAtFirst);
        due.under("of those with something for the VIEW in question", this::currentOfTheViewInQuestion);
        due.under("A view -1 stands for the PRESENT MOMENT, where it is allowed", this::viewMinusOne);
    }

    private void orderTests() {
        due.under("in this order: IllegalArgumentException first: put and out", this::argumentBeforeFull);
        due.under("in this order: IllegalArgumentException first: find", this::argumentBeforeNotOpenFind);
        due.under("in this order: IllegalArgumentException first: seek", this::argumentBeforeNotOpenSeek);
        due.under("in this order: IllegalArgumentException first: current", this::argumentBeforeNone);
        due.under("then as the call says: find", this::notOpenBeforeNothingFind);
        due.under("then as the call says: seek", this::notOpenBeforeNothingSeek);
        due.under("then as the call says: word", this::noneBeforeBounds);
    }

    private static LevelTables lay(LevelTables x, String key) {
        return Tapes.lay(x, key);
    }

    /** A new object with the keys a, b and c, of which a is current. */
    private static LevelTables withThree() {
        LevelTables x = new LevelTables();
        lay(x, "a").put(1, 10);
        lay(x, "b").put(2, 20);
        lay(x, "c").put(3, 30);
        lay(x, "a").find(-1);
        return x;
    }

    /** The keys a, b and c of so many puts and outs. */
    private static LevelTables withMade(int made) {
        return Inside.letPass(withThree(), made);
    }

    private void isEmpty(String what, LevelTables x) {
        due.refuses(what + ": the tape has one byte", ARGUMENT, () -> x.end(1));
        due.answers(what + ": the tape grows from nothing", 20, () -> x.feed(0, 0, 0, 0, 0));
        x.end(0);
    }

    /** The tape that is left has this length, and a key that is put with it is found by its bytes. */
    private void isLeft(String what, LevelTables x, String text) {
        due.refuses(what + ": the tape is longer", ARGUMENT, () -> x.end(text.length() + 1));
        due.answers(what + ": the tape's length", text.length(), () -> x.end(text.length()));
        String key = text.length() > 40 ? text.substring(0, 40) : text;
        if (!key.isEmpty()) {
            x.end(key.length());
            x.put(321, 5);
            due.answers(what + ": the tape's bytes", 321, () -> lay(x, key).find(-1));
        }
    }

    private void theLastCalls() {
        LevelTables puts = new LevelTables();
        for (int i = 1; i <= 256; i++) {
            int nth = i;
            puts.feed(i, i, 0, 0, 0);
            due.answers("put as call " + 2 * i, i, () -> puts.put(nth, 1000));
        }
        LevelTables counts = new LevelTables();
        for (int i = 1; i <= 254; i++) {
            counts.feed(i, i, 0, 0, 0);
            counts.put(i, 1);
        }
        due.answers("flush as call 509", 254, counts::flush);
        due.answers("merge as call 510", 254, () -> counts.merge(true));
        counts.feed(254, 254, 0, 0, 0);
        due.answers("find as call 512", 254, () -> counts.find(-1));
        LevelTables all = new LevelTables();
        for (int i = 1; i <= 170; i++) {
            all.feed(i << 24, 0, 0, 0, 0);
            all.put(i, 1);
            due.answers("flush as call " + 3 * i, i, all::flush);
        }
        due.answers("merge as call 511", 170, () -> all.merge(false));
        due.answers("check as call 512", 170, all::check);
    }

    private void tapeOfSixty() {
        LevelTables x = new LevelTables();
        x.feed(1, 2, 3, 4, 5);
        x.feed(6, 7, 8, 9, 10);
        due.answers("sixty", 60, () -> x.feed(11, 12, 13, 14, 15));
        due.refuses("eighty", BOUNDS, () -> x.feed(16, 17, 18, 19, 20));
        due.refuses("a 61st byte", ARGUMENT, () -> x.end(61));
        due.answers("sixty are left", 60, () -> x.end(60));
    }

    private void readingEmptiesTheTape() {
        LevelTables x = withThree();
        lay(x, "d").put(4, 40);
        isEmpty("put", x);
        lay(x, "d").out();
        isEmpty("out", x);
        lay(x, "a").find(-1);
        isEmpty("find", x);
        lay(x, "a").seek(-1, false);
        isEmpty("seek", x);
        lay(x, "a").seek(-1, true);
        isEmpty("seek beyond", x);
        lay(x, FORTY).seek(-1, true);
        isEmpty("seek with forty bytes", x);
    }

    private void refusedPutLeavesTheTape() {
        int[][] wrong = {{-1, 0}, {Integer.MIN_VALUE, 0}, {0, -1}, {0, 1001}, {-1, 1001}};
        for (int[] numbers : wrong) {
            LevelTables x = lay(withThree(), FORTY);
            due.refuses("put", ARGUMENT, () -> x.put(numbers[0], numbers[1]));
            isLeft("put(" + numbers[0] + ", " + numbers[1] + ")", x, FORTY);
        }
        LevelTables x = lay(withThree(), FORTY + "x");
        due.refuses("put of 41 bytes", ARGUMENT, () -> x.put(0, 0));
        isLeft("put of 41 bytes", x, FORTY + "x");
    }

    private void refusedOutLeavesTheTape() {
        LevelTables x = lay(withThree(), FORTY + "x");
        due.refuses("out of 41 bytes", ARGUMENT, x::out);
        isLeft("out of 41 bytes", x, FORTY + "x");
        LevelTables y = lay(withThree(), FORTY + "0123456789" + "0123456789");
        due.refuses("out of 60 bytes", ARGUMENT, y::out);
        isLeft("out of 60 bytes", y, FORTY + "0123456789" + "0123456789");
    }

    private void refusedFindLeavesTheTape() {
        for (int view : new int[] {-2, 8, Integer.MIN_VALUE, Integer.MAX_VALUE}) {
            LevelTables x = lay(withThree(), "kept");
            due.refuses("find", ARGUMENT, () -> x.find(view));
            isLeft("find(" + view + ")", x, "kept");
        }
        LevelTables x = lay(withThree(), FORTY + "x");
        due.refuses("find of 41 bytes", ARGUMENT, () -> x.find(-1));
        isLeft("find of 41 bytes", x, FORTY + "x");
    }

    private void refusedSeekLeavesTheTape() {
        for (int view : new int[] {-2, 8, Integer.MIN_VALUE, Integer.MAX_VALUE}) {
            LevelTables x = lay(withThree(), "kept");
            due.refuses("seek", ARGUMENT, () -> x.seek(view, true));
            due.refuses("seek", ARGUMENT, () -> x.seek(view, false));
            isLeft("seek(" + view + ")", x, "kept");
        }
        LevelTables x = lay(withThree(), FORTY + "x");
        due.refuses("seek of 41 bytes", ARGUMENT, () -> x.seek(-1, false));
        isLeft("seek of 41 bytes", x, FORTY + "x");
    }

    private void closedViewEmptiesTheTape() {
        LevelTables x = withThree();
        due.refuses("find", STATE, () -> lay(x, "a").find(0));
        isEmpty("find", x);
        due.refuses("seek", STATE, () -> lay(x, "a").seek(7, false));
        isEmpty("seek", x);
        LevelTables full = withMade(500);
        due.refuses("put", STATE, () -> lay(full, "a").put(0, 0));
        isEmpty("put", full);
        due.refuses("out", STATE, () -> lay(full, "a").out());
        isEmpty("out", full);
    }

    private void nothingFoundEmptiesTheTape() {
        LevelTables x = withThree();
        due.refuses("find", NONE, () -> lay(x, "aa").find(-1));
        isEmpty("find", x);
        due.refuses("seek", NONE, () -> lay(x, "d").seek(-1, false));
        isEmpty("seek", x);
        due.refuses("seek beyond", NONE, () -> lay(x, "c").seek(-1, true));
        isEmpty("seek beyond", x);
    }

    private void othersLeaveTheTape() {
        LevelTables x = lay(withThree(), "kept");
        x.current(0);
        x.word(0);
        x.open(0);
        x.check();
        x.flush();
        x.merge(false);
        x.merge(true);
        due.refuses("open", STATE, () -> x.open(0));
        x.close(0);
        due.refuses("close", STATE, () -> x.close(0));
        due.refuses("open", ARGUMENT, () -> x.open(8));
        due.refuses("close", ARGUMENT, () -> x.close(8));
        due.refuses("current", ARGUMENT, () -> x.current(4));
        due.refuses("word", BOUNDS, () -> x.word(1));
        isLeft("others", x, "kept");
    }

    /** A call that reads a key and answers its moment takes 1 byte and 40, and refuses 0, 41 and 60. */
    private void keyLengths(ToIntFunction<LevelTables> call) {
        LevelTables x = new LevelTables();
        due.refuses("no byte", ARGUMENT, () -> call.applyAsInt(x));
        due.answers("1 byte", 1, () -> call.applyAsInt(lay(x, "x")));
        due.answers("40 bytes", 2, () -> call.applyAsInt(lay(x, FORTY)));
        lay(x, FORTY + "x");
        due.refuses("41 bytes", ARGUMENT, () -> call.applyAsInt(x));
        x.end(40);
        x.feed(0, 0, 0, 0, 0);
        due.refuses("60 bytes", ARGUMENT, () -> call.applyAsInt(x));
        x.end(40);
        due.answers("40 bytes of 60", 3, () -> call.applyAsInt(x));
    }

    private void keyLengthsOfFind() {
        LevelTables x = new LevelTables();
        lay(x, "x").put(1, 0);
        lay(x, FORTY).put(40, 0);
        due.refuses("no byte", ARGUMENT, () -> x.find(-1));
        due.answers("1 byte", 1, () -> lay(x, "x").find(-1));
        due.answers("40 bytes", 40, () -> lay(x, FORTY).find(-1));
        lay(x, FORTY + "x");
        due.refuses("41 bytes", ARGUMENT, () -> x.find(-1));
        x.end(40);
        due.answers("40 bytes of 41", 40, () -> x.find(-1));
    }

    /** The greater key is put first, so that an order of puts is no order of keys. */
    private void comesBefore(String what, String first, String second) {
        for (Storage storage : Storage.values()) {
            LevelTables x = new LevelTables();
            lay(x, second).put(2, 0);
            lay(x, first).put(1, 0);
            storage.settle(x);
            String where = what + " in " + storage;
            due.answers(where + ": the first", 1, () -> x.seek(-1, false));
            due.answers(where + ": from the first", 1, () -> lay(x, first).seek(-1, false));
            due.answers(where + ": beyond the first", 2, () -> lay(x, first).seek(-1, true));
            due.answers(where + ": from the second", 2, () -> lay(x, second).seek(-1, false));
            due.refuses(where + ": beyond the second", NONE, () -> lay(x, second).seek(-1, true));
            due.answers(where + ": both are there", 2, x::check);
        }
    }

    private void firstDifferentByteDecides() {
        for (int at = 0; at < 40; at++) {
            String same = FORTY.substring(0, at);
            comesBefore("byte " + at + " differs", same + "a", same + "b");
        }
        comesBefore("the first one alone decides", "ab", "ba");
        comesBefore("the long one is before", "a" + FORTY.substring(1), "b");
        comesBefore("a later word is greater", "aaaaaaaaz", "aaaaaaabA");
    }

    private void bytesHaveNoSign() {
        for (int at = 0; at < 40; at += 13) {
            String same = FORTY.substring(0, at);
            comesBefore("0 and 1 at " + at, same + "\0", same + "\1");
            comesBefore("127 and 128 at " + at, same + "\u007f", same + "\u0080");
            comesBefore("0 and 255 at " + at, same + "\0", same + "\u00ff");
            comesBefore("254 and 255 at " + at, same + "\u00fe", same + "\u00ff");
        }
    }

    private void beginningComesBefore() {
        for (int length = 1; length < 40; length++) {
            String begun = FORTY.substring(0, length);
            comesBefore(length + " bytes and a zero more", begun, begun + "\0");
            comesBefore(length + " bytes and 255 more", begun, begun + "\u00ff");
        }
        comesBefore("1 byte and 40", "0", FORTY);
        comesBefore("zeros alone", "\0", "\0\0");
        comesBefore("39 zeros and 40", "\0".repeat(39), "\0".repeat(40));
    }

    private void presentIsNoneAtFirst() {
        LevelTables x = new LevelTables();
        due.answers("open", 0, () -> x.open(0));
        due.answers("close", 0, () -> x.close(0));
        due.answers("the first put", 1, () -> lay(x, "a").put(0, 0));
        due.answers("the first out of another", 1, () -> lay(new LevelTables(), "a").out());
    }

    private void putAndOutAloneRaiseThePresent() {
        LevelTables x = withThree();
        due.answers("put of a key that is there", 4, () -> lay(x, "a").put(1, 10));
        due.answers("out of a key that is there", 5, () -> lay(x, "a").out());
        due.answers("out of a key that is not", 6, () -> lay(x, "a").out());
        x.open(0);
        x.close(0);
        lay(x, "b").find(-1);
        x.seek(-1, false);
        x.current(0);
        x.word(0);
        x.flush();
        x.merge(false);
        x.merge(true);
        x.check();
        due.answers("no other call raises it", 6, () -> x.open(0));
        due.answers("the next put", 7, () -> lay(x, "a").put(1, 10));
    }

    /** View v is opened behind v puts and outs of one key, and the last ones behind those of another. */
    private static LevelTables withHistory(Storage storage) {
        LevelTables x = new LevelTables();
        x.open(0);
        lay(x, "a").put(100, 0);
        x.open(1);
        lay(x, "a").put(200, 1000);
        x.open(2);
        storage.settle(x);
        lay(x, "a").out();
        x.open(3);
        lay(x, "a").out();
        x.open(4);
        lay(x, "a").put(500, 50);
        x.open(5);
        lay(x, "b").put(600, 60);
        x.open(6);
        storage.settle(x);
        lay(x, "b").out();
        x.open(7);
        return storage.settle(x);
    }

    private void theLastPutUpToAMoment() {
        for (Storage storage : Storage.values()) {
            LevelTables x = withHistory(storage);
            int[][] rows = {{1, 100, 0, 1}, {2, 200, 1000, 2}, {5, 500, 50, 5}, {6, 500, 50, 5}, {-1, 500, 50, 5}};
            for (int[] row : rows) {
                String where = "view " + row[0] + " in " + storage;
                due.answers(where, row[1], () -> lay(x, "a").find(row[0]));
                due.answers(where + ": size", row[2], () -> x.current(1));
                due.answers(where + ": moment", row[3], () -> x.current(2));
            }
            due.answers("b in " + storage, 600, () -> lay(x, "b").find(6));
        }
    }

    private void outBehindThat() {
        for (Storage storage : Storage.values()) {
            LevelTables x = withHistory(storage);
            due.refuses("a, view 3 in " + storage, NONE, () -> lay(x, "a").find(3));
            due.refuses("a, view 4 in " + storage, NONE, () -> lay(x, "a").find(4));
            due.refuses("seek, view 3 in " + storage, NONE, () -> x.seek(3, false));
            due.refuses("seek, view 4 in " + storage, NONE, () -> x.seek(4, false));
            due.refuses("b, view 7 in " + storage, NONE, () -> lay(x, "b").find(7));
            due.refuses("b, view -1 in " + storage, NONE, () -> lay(x, "b").find(-1));
        }
    }

    private void neverPut() {
        for (Storage storage : Storage.values()) {
            LevelTables x = withHistory(storage);
            due.refuses("a, view 0 in " + storage, NONE, () -> lay(x, "a").find(0));
            due.refuses("seek, view 0 in " + storage, NONE, () -> x.seek(0, false));
            due.refuses("b, view 5 in " + storage, NONE, () -> lay(x, "b").find(5));
            due.refuses("c, view -1 in " + storage, NONE, () -> lay(x, "c").find(-1));
        }
    }

    /** So many puts and outs in turn; the first 400 have passed. */
    private void fiveHundred(int puts, int outs) {
        LevelTables x = Inside.letPass(new LevelTables(), 400);
        for (int i = 401; i <= 500; i++) {
            int nth = i;
            lay(x, "k" + i);
            boolean isPut = i % (puts + outs) < puts;
            due.answers("number " + i, i, () -> isPut ? x.put(nth, 1) : x.out());
        }
        due.refuses("a 501st put", STATE, () -> lay(x, "k401").put(0, 0));
        due.refuses("a 501st out", STATE, () -> lay(x, "k402").out());
        due.refuses("one more put", STATE, () -> lay(x, "k403").put(0, 0));
        due.answers("the present one", 500, () -> x.open(0));
        int living = 100 * puts / (puts + outs);
        due.answers("check", living, x::check);
        due.answers("flush", living, x::flush);
        due.answers("merge", living, () -> x.merge(true));
    }

    private void refusedDoNotCount() {
        LevelTables x = withMade(499);
        for (int i = 0; i < 20; i++) {
            due.refuses("put", ARGUMENT, () -> x.put(0, 0));
            due.refuses("out", ARGUMENT, x::out);
        }
        due.answers("the 500th", 500, () -> lay(x, "k").out());
        due.refuses("the 501st", STATE, () -> lay(x, "k").out());
    }

    private void mergingGivesNoneBack() {
        LevelTables x = withMade(400);
        for (int i = 400; i < 500; i++) {
            lay(x, "a").put(i, 1);
            x.flush();
        }
        x.merge(true);
        due.refuses("put", STATE, () -> lay(x, "a").put(0, 0));
        due.refuses("out", STATE, () -> lay(x, "a").out());
        due.answers("the last put", 499, () -> lay(x, "a").find(-1));
        due.answers("its moment", 500, () -> x.current(2));
    }

    private void allElseGoesOn() {
        LevelTables x = withMade(500);
        due.refuses("put", STATE, () -> lay(x, "a").put(0, 0));
        due.answers("open", 500, () -> x.open(3));
        due.answers("find", 1, () -> lay(x, "a").find(3));
        due.answers("seek", 2, () -> lay(x, "a").seek(3, true));
        due.answers("current", 20, () -> x.current(1));
        due.answers("word", 0x6200000000000000L, () -> x.word(0));
        due.answers("check", 3, x::check);
        due.answers("flush", 3, x::flush);
        due.answers("a step", 3, () -> x.merge(false));
        due.answers("all of it", 3, () -> x.merge(true));
        due.answers("find behind it", 3, () -> lay(x, "c").find(3));
        due.answers("close", 500, () -> x.close(3));
    }

    private void viewsAreNotOpenAtFirst() {
        for (int v = 0; v <= 7; v++) {
            int view = v;
            LevelTables x = withThree();
            due.refuses("close(" + v + ")", STATE, () -> x.close(view));
            due.refuses("find(" + v + ")", STATE, () -> lay(x, "a").find(view));
            due.refuses("seek(" + v + ")", STATE, () -> x.seek(view, false));
            due.answers("open(" + v + ")", 3, () -> x.open(view));
        }
    }

    private void allViewsSeeTheirOwn() {
        for (Storage storage : Storage.values()) {
            LevelTables x = new LevelTables();
            for (int view = 7; view >= 0; view--) {
                x.open(view);
                lay(x, "a").put(view, 1);
            }
            storage.settle(x);
            due.refuses("view 7, before all puts, in " + storage, NONE, () -> lay(x, "a").find(7));
            for (int v = 6; v >= 0; v--) {
                int view = v;
                due.answers("view " + v + " in " + storage, v + 1, () -> lay(x, "a").find(view));
            }
            due.answers("the present one in " + storage, 0, () -> lay(x, "a").find(-1));
            for (int v = 0; v <= 7; v++) {
                int view = v;
                due.answers("close(" + v + ")", 7 - v, () -> x.close(view));
            }
        }
    }

    private void viewsOfOneMoment() {
        LevelTables x = withThree();
        x.open(2);
        x.open(5);
        lay(x, "a").out();
        x.close(2);
        x.flush();
        x.merge(true);
        due.answers("the one that is left", 1, () -> lay(x, "a").find(5));
        due.refuses("the closed one", STATE, () -> lay(x, "a").find(2));
        due.answers("what it saw", 3, () -> x.close(5));
    }

    private void noneIsCurrentAtFirst() {
        LevelTables x = new LevelTables();
        lay(x, "a").put(1, 1);
        x.open(0);
        x.flush();
        x.merge(true);
        x.check();
        for (int w = 0; w <= 3; w++) {
            int what = w;
            due.refuses("current(" + w + ")", NONE, () -> x.current(what));
        }
        due.refuses("word(0)", NONE, () -> x.word(0));
        due.answers("find", 1, () -> lay(x, "a").find(-1));
        due.answers("current(0) behind it", 1, () -> x.current(0));
    }

    private void currentOfTheViewInQuestion() {
        LevelTables x = withThree();
        x.open(0);
        lay(x, "a").put(99, 990);
        lay(x, "a").find(0);
        due.answers("the size that view 0 sees", 10, () -> x.current(1));
        lay(x, "a").find(-1);
        due.answers("the present size", 990, () -> x.current(1));
        x.seek(0, false);
        due.answers("the size that view 0 seeks", 10, () -> x.current(1));
        x.seek(-1, false);
        due.answers("the present size, sought", 990, () -> x.current(1));
    }

    private void viewMinusOne() {
        LevelTables x = withThree();
        due.answers("find", 1, () -> lay(x, "a").find(-1));
        due.answers("seek", 1, () -> x.seek(-1, false));
        lay(x, "a").put(7, 7);
        due.answers("find behind a put", 7, () -> lay(x, "a").find(-1));
        due.answers("seek behind a put", 7, () -> x.seek(-1, false));
        due.refuses("open", ARGUMENT, () -> x.open(-1));
        due.refuses("close", ARGUMENT, () -> x.close(-1));
        for (int view = 0; view <= 7; view++) {
            x.open(view);
        }
        lay(x, "a").put(8, 8);
        due.answers("find with all views open", 8, () -> lay(x, "a").find(-1));
        due.refuses("open with all views open", ARGUMENT, () -> x.open(-1));
        due.refuses("close with all views open", ARGUMENT, () -> x.close(-1));
    }

    private void argumentBeforeFull() {
        LevelTables x = withMade(500);
        due.refuses("put with no key", ARGUMENT, () -> x.put(0, 0));
        due.refuses("out with no key", ARGUMENT, x::out);
        lay(x, FORTY + "x");
        due.refuses("put with 41 bytes", ARGUMENT, () -> x.put(0, 0));
        due.refuses("out with 41 bytes", ARGUMENT, x::out);
        x.end(40);
        due.refuses("put with place -1", ARGUMENT, () -> x.put(-1, 0));
        due.refuses("put with size -1", ARGUMENT, () -> x.put(0, -1));
        due.refuses("put with size 1001", ARGUMENT, () -> x.put(0, 1001));
        due.refuses("put", STATE, () -> x.put(0, 0));
    }

    private void argumentBeforeNotOpenFind() {
        LevelTables x = withThree();
        due.refuses("no key", ARGUMENT, () -> x.find(0));
        lay(x, FORTY + "x");
        due.refuses("41 bytes", ARGUMENT, () -> x.find(0));
        x.end(1);
        due.refuses("view -2", ARGUMENT, () -> x.find(-2));
        due.refuses("view 8", ARGUMENT, () -> x.find(8));
        due.refuses("view 7", STATE, () -> x.find(7));
    }

    private void argumentBeforeNotOpenSeek() {
        LevelTables x = lay(withThree(), FORTY + "x");
        due.refuses("41 bytes", ARGUMENT, () -> x.seek(0, false));
        x.end(40);
        due.refuses("view -2", ARGUMENT, () -> x.seek(-2, false));
        due.refuses("view 8", ARGUMENT, () -> x.seek(8, false));
        due.refuses("view 7", STATE, () -> x.seek(7, false));
    }

    private void argumentBeforeNone() {
        LevelTables x = new LevelTables();
        due.refuses("what -1", ARGUMENT, () -> x.current(-1));
        due.refuses("what 4", ARGUMENT, () -> x.current(4));
        due.refuses("what 0", NONE, () -> x.current(0));
        due.refuses("what 3", NONE, () -> x.current(3));
    }

    private void notOpenBeforeNothingFind() {
        LevelTables x = withThree();
        due.refuses("a key that has nothing, in a view that is not open", STATE, () -> lay(x, "z").find(0));
        due.answers("a is still current", 1, () -> x.current(0));
        x.open(0);
        due.refuses("in one that is", NONE, () -> lay(x, "z").find(0));
        due.refuses("none is current", NONE, () -> x.current(0));
    }

    private void notOpenBeforeNothingSeek() {
        LevelTables x = withThree();
        due.refuses("no such key, in a view that is not open", STATE, () -> lay(x, "z").seek(0, false));
        due.answers("a is still current", 1, () -> x.current(0));
        x.open(0);
        due.refuses("in one that is", NONE, () -> lay(x, "z").seek(0, false));
        due.refuses("none is current", NONE, () -> x.current(0));
    }

    private void noneBeforeBounds() {
        LevelTables x = new LevelTables();
        due.refuses("word(-1)", NONE, () -> x.word(-1));
        due.refuses("word(40)", NONE, () -> x.word(40));
        lay(x, "a").put(1, 1);
        lay(x, "a").find(-1);
        due.refuses("word(-1) of a", BOUNDS, () -> x.word(-1));
        due.refuses("word(40) of a", BOUNDS, () -> x.word(40));
    }
}

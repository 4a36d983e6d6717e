import java.util.ArrayList;
import java.util.Arrays;
import java.util.NoSuchElementException;

/**
 * Versions of keys, in memory and in sorted tables on four levels of a flash chip.
 *
 * <p>Of one key, what lies in memory is newer than what lies on level 0, that is newer than what
 * lies on level 1, and so on: memory is written out as a whole, and a table goes down only together
 * with all that its level has of its keys. A search may therefore stop at the first version it meets.
 */
public final class LevelTables {
    private static final int LIMIT = 500;
    private static final int LONGEST_KEY = 40;
    private static final int LARGEST_SIZE = 1000;
    private static final int TAPE = 60;
    private static final int FEED = 20;
    private static final int VIEWS = 8;
    private static final int PRESENT = -1;
    private static final int NOT_OPEN = -1;

    private static final int KEY_WORDS = 5;
    private static final int WORDS = KEY_WORDS + 1;

    /** No moment comes up to this one, and it still fits into a version's ten bits for a moment. */
    private static final int FOREVER = 1023;

    private static final int DEEPEST = 3;
    private static final int RUNS = DEEPEST + 2;
    private static final int PER_BLOCK = 8;
    private static final int FULL_TABLE = 32;

    /**
     * Enough for the old tables and those that a merge writes beside them: a block in use holds
     * one version at least, and a merge writes no more versions than there are.
     */
    private static final int BLOCKS = 2 * LIMIT;

    /** How many tables the levels above the deepest may have when memory has been written out. */
    private static final int[] ALLOWED = {4, 8, 16};

    private final Tape tape = new Tape();
    private final Views views = new Views();
    private final Chip chip = new Chip();
    private final Memory memory = new Memory();
    private final Level[] levels = new Level[DEEPEST + 1];
    /** Memory, and behind it the levels: a level's run has the level's number and one more. */
    private final Run[] runs = new Run[RUNS];
    private final Walk walk;
    private final Writer writer;
    private final Version key = new Version();
    private final Version target = new Version();
    private final Version found = new Version();
    private final Version low = new Version();
    private final Version high = new Version();
    private final Version shown = new Version();
    private boolean isShown;
    private int living;

    public LevelTables() {
        runs[0] = memory;
        for (int level = 0; level <= DEEPEST; level++) {
            levels[level] = new Level(chip);
            runs[level + 1] = levels[level];
        }
        walk = new Walk(runs);
        writer = new Writer(chip);
    }

    public int feed(int a, int b, int c, int d, int e) throws IndexOutOfBoundsException {
        if (tape.length() + FEED > TAPE) {
            throw new IndexOutOfBoundsException();
        }
        tape.append(a);
        tape.append(b);
        tape.append(c);
        tape.append(d);
        tape.append(e);
        return tape.length();
    }

    public int end(int n) throws IllegalArgumentException {
        if (n < 0 || n > tape.length()) {
            throw new IllegalArgumentException();
        }
        tape.cut(n);
        return n;
    }

    public int put(int place, int size) throws IllegalArgumentException, IllegalStateException {
        if (place < 0 || size < 0 || size > LARGEST_SIZE || !tape.hasKey()) {
            throw new IllegalArgumentException();
        }
        return addVersion(true, size, place);
    }

    public int out() throws IllegalArgumentException, IllegalStateException {
        if (!tape.hasKey()) {
            throw new IllegalArgumentException();
        }
        return addVersion(false, 0, 0);
    }

    public int open(int view) throws IllegalArgumentException, IllegalStateException {
        if (view < 0 || view >= VIEWS) {
            throw new IllegalArgumentException();
        }
        if (views.momentOf(view) != NOT_OPEN) {
            throw new IllegalStateException();
        }
        views.begin(view);
        return views.present();
    }

    public int close(int view) throws IllegalArgumentException, IllegalStateException {
        if (view < 0 || view >= VIEWS) {
            throw new IllegalArgumentException();
        }
        int saw = views.momentOf(view);
        if (saw == NOT_OPEN) {
            throw new IllegalStateException();
        }
        views.finish(view);
        return saw;
    }

    public int find(int view)
            throws IllegalArgumentException, IllegalStateException, NoSuchElementException {
        if (view < PRESENT || view >= VIEWS || !tape.hasKey()) {
            throw new IllegalArgumentException();
        }
        int moment = readTapeFor(view);
        return show(hasSomething(key, moment, 0));
    }

    public int seek(int view, boolean beyond)
            throws IllegalArgumentException, IllegalStateException, NoSuchElementException {
        if (view < PRESENT || view >= VIEWS || tape.length() > LONGEST_KEY) {
            throw new IllegalArgumentException();
        }
        int moment = readTapeFor(view);
        key.setMoment(beyond ? FOREVER : 0);
        return show(reachSomething(moment));
    }

    public int current(int what) throws IllegalArgumentException, NoSuchElementException {
        if (what < 0 || what > 3) {
            throw new IllegalArgumentException();
        }
        if (!isShown) {
            throw new NoSuchElementException();
        }
        switch (what) {
            case 0:
                return shown.place();
            case 1:
                return shown.size();
            case 2:
                return shown.moment();
            default:
                return shown.length();
        }
    }

    public long word(int i) throws NoSuchElementException, IndexOutOfBoundsException {
        if (!isShown) {
            throw new NoSuchElementException();
        }
        if (i < 0 || i >= shown.length()) {
            throw new IndexOutOfBoundsException();
        }
        return shown.eightBytes(i);
    }

    public int flush() {
        if (memory.count() > 0) {
            writeOut();
        }
        for (int level = 0; level < DEEPEST; level++) {
            for (int over = levels[level].tableCount() - ALLOWED[level]; over > 0; over--) {
                pushDown(level);
            }
        }
        return living;
    }

    public int merge(boolean whole) {
        if (whole) {
            mergeAll();
            return living;
        }
        for (int level = 0; level < DEEPEST; level++) {
            if (levels[level].tableCount() > 0) {
                pushDown(level);
                return living;
            }
        }
        return living;
    }

    public int check() {
        return isSound() ? countLiving() : -1;
    }

    /** Moves the tape to key, and answers the moment that the view sees. */
    private int readTapeFor(int view) throws IllegalStateException {
        tape.moveTo(key);
        int moment = views.momentOf(view);
        if (moment == NOT_OPEN) {
            throw new IllegalStateException();
        }
        return moment;
    }

    private int addVersion(boolean there, int size, int place) throws IllegalStateException {
        tape.moveTo(key);
        if (views.present() >= LIMIT) {
            throw new IllegalStateException();
        }
        boolean before = hasSomething(key, views.present(), 0);
        views.step();
        key.describe(views.present(), there, size, place);
        memory.insert(key);
        if (there != before) {
            living += there ? 1 : -1;
        }
        return views.present();
    }

    /** Tells whether a key has something at a moment by the runs from one on; leaves it in found. */
    private boolean hasSomething(Version version, int moment, int run) {
        target.copy(version);
        target.setMoment(moment + 1);
        for (int r = run; r < RUNS; r++) {
            int at = runs[r].firstNotBefore(target) - 1;
            if (at >= 0) {
                runs[r].load(at, found);
                if (found.compareKey(version) == 0) {
                    return found.isThere();
                }
            }
        }
        return false;
    }

    /** Tells whether a key from key on has something at the moment, and leaves it in found. */
    private boolean reachSomething(int moment) {
        walk.clear();
        for (int r = 0; r < RUNS; r++) {
            walk.cover(r, runs[r].firstNotBefore(key), runs[r].count());
        }
        walk.begin();
        for (int i = 0; i < LIMIT && walk.advance(); i++) {
            if (walk.isSomethingAt(moment)) {
                found.copy(walk.version());
                return true;
            }
        }
        return false;
    }

    private int show(boolean isFound) throws NoSuchElementException {
        isShown = isFound;
        if (!isFound) {
            throw new NoSuchElementException();
        }
        shown.copy(found);
        return shown.place();
    }

    private void writeOut() {
        Level first = levels[0];
        memory.load(0, low);
        memory.load(memory.count() - 1, high);
        int from = first.firstTableReaching(low);
        int to = first.firstTableBeyond(high);
        walk.clear();
        walk.cover(0, 0, memory.count());
        walk.cover(1, first.startOf(from), first.startOf(to));
        writeNeeded(0);
        first.remove(from, to);
        first.insert(from, writer.tables());
        memory.clear();
    }

    /** Merges the first table of a level with those of the next that it overlaps. */
    private void pushDown(int level) {
        Level upper = levels[level];
        Level lower = levels[level + 1];
        int size = upper.startOf(1);
        upper.load(0, low);
        upper.load(size - 1, high);
        int from = lower.firstTableReaching(low);
        int to = lower.firstTableBeyond(high);
        walk.clear();
        walk.cover(level + 1, 0, size);
        walk.cover(level + 2, lower.startOf(from), lower.startOf(to));
        writeNeeded(level + 1);
        upper.remove(0, 1);
        lower.remove(from, to);
        lower.insert(from, writer.tables());
    }

    private void mergeAll() {
        walk.clear();
        for (int level = 0; level <= DEEPEST; level++) {
            walk.cover(level + 1, 0, levels[level].count());
        }
        writeNeeded(DEEPEST);
        for (int level = 0; level <= DEEPEST; level++) {
            levels[level].remove(0, levels[level].tableCount());
        }
        levels[DEEPEST].insert(0, writer.tables());
    }

    /** Writes what the walk goes through as tables for a level, without what no moment needs. */
    private void writeNeeded(int level) {
        boolean isBegun = false;
        boolean wasThere = false;
        writer.begin();
        walk.begin();
        for (int i = 0; i < LIMIT && walk.advance(); i++) {
            Version version = walk.version();
            boolean isLast = walk.until() == FOREVER;
            int until = isLast ? nextMoment(version, level) : walk.until();
            // That a key has nothing needs to be told only where it would have something otherwise.
            if (!isBegun && !version.isThere()) {
                wasThere = hasSomething(version, version.moment(), level + 2);
            }
            if (views.need(version.moment(), until) && (version.isThere() || wasThere)) {
                writer.add(version, !isBegun);
                isBegun = true;
                wasThere = version.isThere();
            }
            isBegun = isBegun && !isLast;
        }
        writer.seal();
    }

    /** The moment of the next version of the key, in memory or above a level; FOREVER if none comes. */
    private int nextMoment(Version version, int level) {
        target.copy(version);
        target.setMoment(version.moment() + 1);
        for (int r = level; r >= 0; r--) {
            int at = runs[r].firstNotBefore(target);
            if (at < runs[r].count()) {
                runs[r].load(at, found);
                if (found.compareKey(version) == 0) {
                    return found.moment();
                }
            }
        }
        return FOREVER;
    }

    private boolean isSound() {
        chip.forgetUses();
        for (int level = 0; level <= DEEPEST; level++) {
            if (!levels[level].isSound(low, high)) {
                return false;
            }
        }
        return !chip.isMisused();
    }

    private int countLiving() {
        int count = 0;
        walk.clear();
        for (int r = 0; r < RUNS; r++) {
            walk.cover(r, 0, runs[r].count());
        }
        walk.begin();
        for (int i = 0; i < LIMIT && walk.advance(); i++) {
            if (walk.isSomethingAt(views.present())) {
                count++;
            }
        }
        return count;
    }

    private static final class Tape {
        private final byte[] bytes = new byte[TAPE];
        private int length;

        int length() {
            return length;
        }

        boolean hasKey() {
            return length >= 1 && length <= LONGEST_KEY;
        }

        void cut(int n) {
            length = n;
        }

        void append(int four) {
            for (int shift = 24; shift >= 0 && length < TAPE; shift -= 8) {
                bytes[length] = (byte) (four >>> shift);
                length++;
            }
        }

        /** Leaves the bytes in a version that comes before all others of their key. */
        void moveTo(Version version) {
            version.setKey(bytes, length);
            length = 0;
        }
    }

    /** The present moment, and the moments that the views see. */
    private static final class Views {
        private final int[] moments = new int[VIEWS];
        private int present;

        Views() {
            Arrays.fill(moments, NOT_OPEN);
        }

        int present() {
            return present;
        }

        void step() {
            present++;
        }

        int momentOf(int view) {
            return view >= 0 && view < VIEWS ? moments[view] : present;
        }

        void begin(int view) {
            if (view >= 0 && view < VIEWS) {
                moments[view] = present;
            }
        }

        void finish(int view) {
            if (view >= 0 && view < VIEWS) {
                moments[view] = NOT_OPEN;
            }
        }

        /** Tells whether a moment from one on and before another is the present one or seen. */
        boolean need(int from, int until) {
            if (from <= present && present < until) {
                return true;
            }
            for (int view = 0; view < VIEWS; view++) {
                if (from <= moments[view] && moments[view] < until) {
                    return true;
                }
            }
            return false;
        }
    }

    /**
     * A version of a key, as it stands on the chip: the key with zeros behind it, then its length
     * (from bit 52 on), its moment (42), whether it gives something (41), size (31) and place.
     */
    private static final class Version {
        private static final long HIGHEST_BIT = 1L << 63;

        private final long[] words = new long[WORDS];

        long[] words() {
            return words;
        }

        int length() {
            return (int) (words[KEY_WORDS] >>> 52);
        }

        int moment() {
            return (int) (words[KEY_WORDS] >>> 42) & 1023;
        }

        boolean isThere() {
            return (words[KEY_WORDS] >>> 41 & 1) != 0;
        }

        int size() {
            return (int) (words[KEY_WORDS] >>> 31) & 1023;
        }

        int place() {
            return (int) words[KEY_WORDS] & 0x7fffffff;
        }

        void copy(Version other) {
            System.arraycopy(other.words, 0, words, 0, WORDS);
        }

        void setKey(byte[] bytes, int length) {
            Arrays.fill(words, 0);
            for (int i = 0; i < length && i < LONGEST_KEY && i < bytes.length; i++) {
                words[i >> 3] |= (bytes[i] & 255L) << (56 - 8 * (i & 7));
            }
            words[KEY_WORDS] = (long) length << 52;
        }

        void setMoment(int moment) {
            describe(moment, false, 0, 0);
        }

        void describe(int moment, boolean there, int size, int place) {
            words[KEY_WORDS] = (long) length() << 52 | (long) moment << 42
                    | (there ? 1L : 0L) << 41 | (long) size << 31 | place;
        }

        int compareKey(Version other) {
            for (int w = 0; w < KEY_WORDS; w++) {
                long mine = words[w] ^ HIGHEST_BIT;
                long others = other.words[w] ^ HIGHEST_BIT;
                if (mine != others) {
                    return mine < others ? -1 : 1;
                }
            }
            return length() - other.length();
        }

        boolean isBefore(Version other) {
            int order = compareKey(other);
            return order < 0 || order == 0 && moment() < other.moment();
        }

        long eightBytes(int from) {
            long eight = 0;
            for (int i = from; i < from + 8; i++) {
                eight = eight << 8 | byteAt(i);
            }
            return eight;
        }

        private long byteAt(int i) {
            if (i < 0 || i >= LONGEST_KEY) {
                return 0;
            }
            return words[i >> 3] >>> (56 - 8 * (i & 7)) & 255;
        }

        long addTo(long sum) {
            long longer = sum;
            for (int w = 0; w < WORDS; w++) {
                longer = longer * 31 + words[w];
            }
            return longer;
        }
    }

    /** Versions in order: by their keys, and of one key by their moments. */
    private abstract static class Run {
        private final Version middle = new Version();

        abstract int count();

        abstract void load(int i, Version into);

        final int firstNotBefore(Version version) {
            int first = 0;
            int width = count();
            while (width > 0) {
                int half = width >> 1;
                load(first + half, middle);
                if (middle.isBefore(version)) {
                    first += half + 1;
                    width -= half + 1;
                } else {
                    width = half;
                }
            }
            return first;
        }
    }

    private static final class Memory extends Run {
        private final long[] rows = new long[LIMIT * WORDS];
        private int count;

        int count() {
            return count;
        }

        void load(int i, Version into) {
            if (i >= 0 && i < count) {
                System.arraycopy(rows, i * WORDS, into.words(), 0, WORDS);
            }
        }

        void insert(Version version) {
            if (count < LIMIT) {
                int at = firstNotBefore(version) * WORDS;
                System.arraycopy(rows, at, rows, at + WORDS, count * WORDS - at);
                System.arraycopy(version.words(), 0, rows, at, WORDS);
                count++;
            }
        }

        void clear() {
            count = 0;
        }
    }

    /** A flash chip: a block is erased as a whole, and then each of its words is written once. */
    private static final class Chip {
        private final long[][] blocks = new long[BLOCKS][];
        private final int[] written = new int[BLOCKS];
        private final int[] taken = new int[BLOCKS];
        private final int[] uses = new int[BLOCKS];
        private boolean misused;

        boolean isMisused() {
            return misused;
        }

        /** Erases a free block and answers its number, or -1 if none is free. */
        int take() {
            for (int block = 0; block < BLOCKS; block++) {
                if (taken[block] == 0) {
                    taken[block] = 1;
                    erase(block);
                    return block;
                }
            }
            return -1;
        }

        private void erase(int block) {
            // Most blocks are never used: their rows are not made before they are.
            if (blocks[block] == null) {
                blocks[block] = new long[PER_BLOCK * WORDS];
            }
            Arrays.fill(blocks[block], -1L);
            written[block] = 0;
        }

        void release(int block) {
            if (block >= 0 && block < BLOCKS) {
                taken[block] = 0;
            }
        }

        void write(int block, int at, Version version) {
            if (hasRow(block, at) && at >= written[block]) {
                System.arraycopy(version.words(), 0, blocks[block], at, WORDS);
                written[block] = at + WORDS;
            } else {
                misused = true;
            }
        }

        void read(int block, int at, Version into) {
            if (hasRow(block, at)) {
                System.arraycopy(blocks[block], at, into.words(), 0, WORDS);
            }
        }

        private boolean hasRow(int block, int at) {
            return block >= 0 && block < BLOCKS && blocks[block] != null
                    && at >= 0 && at + WORDS <= blocks[block].length;
        }

        void forgetUses() {
            Arrays.fill(uses, 0);
        }

        /** Notes that a table uses the block, and tells whether it alone does and may. */
        boolean use(int block) {
            if (block < 0 || block >= BLOCKS || taken[block] == 0) {
                return false;
            }
            uses[block]++;
            return uses[block] == 1;
        }
    }

    /** A sorted table on the chip; it has all that its level has of each of its keys. */
    private static final class Table {
        private final int[] blocks;
        private final int count;
        private final long sum;
        private int start;

        Table(int[] blocks, int count, long sum) {
            this.blocks = blocks;
            this.count = count;
            this.sum = sum;
        }

        int count() {
            return count;
        }

        long sum() {
            return sum;
        }

        int start() {
            return start;
        }

        void setStart(int at) {
            start = at;
        }

        int blockOf(int i) {
            int nth = i / PER_BLOCK;
            return i >= 0 && nth < blocks.length ? blocks[nth] : -1;
        }

        void release(Chip chip) {
            for (int block : blocks) {
                chip.release(block);
            }
        }

        boolean usesItsBlocks(Chip chip) {
            if (count < 1 || blocks.length != (count + PER_BLOCK - 1) / PER_BLOCK) {
                return false;
            }
            for (int block : blocks) {
                if (!chip.use(block)) {
                    return false;
                }
            }
            return true;
        }
    }

    /** The tables of a level, which do not overlap, read as one run. */
    private static final class Level extends Run {
        private final Chip chip;
        private final ArrayList<Table> tables = new ArrayList<>();
        private int count;

        Level(Chip chip) {
            this.chip = chip;
        }

        int count() {
            return count;
        }

        void load(int i, Version into) {
            int t = tableWith(i);
            if (t >= 0 && t < tables.size()) {
                Table table = tables.get(t);
                int at = i - table.start();
                chip.read(table.blockOf(at), at % PER_BLOCK * WORDS, into);
            }
        }

        int tableCount() {
            return tables.size();
        }

        /** The index among all versions of the level of a table's first one. */
        int startOf(int t) {
            return t >= 0 && t < tables.size() ? tables.get(t).start() : count;
        }

        /** The table that has the version i; one beyond the last if none has. */
        private int tableWith(int i) {
            if (i >= count) {
                return tables.size();
            }
            int first = 0;
            int width = tables.size();
            while (width > 1) {
                int half = width >> 1;
                if (tables.get(first + half).start() <= i) {
                    first += half;
                    width -= half;
                } else {
                    width = half;
                }
            }
            return first;
        }

        /** The first table that does not end before a key; the version's moment is lost. */
        int firstTableReaching(Version key) {
            key.setMoment(0);
            return tableWith(firstNotBefore(key));
        }

        /** The first table that begins behind a key; the version's moment is lost. */
        int firstTableBeyond(Version key) {
            key.setMoment(FOREVER);
            int next = firstNotBefore(key);
            return next == 0 ? 0 : tableWith(next - 1) + 1;
        }

        void remove(int from, int to) {
            for (int t = Math.min(to, tables.size()) - 1; t >= from && t >= 0; t--) {
                tables.get(t).release(chip);
                tables.remove(t);
            }
            renumber();
        }

        void insert(int at, ArrayList<Table> fresh) {
            for (int t = 0; t < fresh.size() && at >= 0 && at + t <= tables.size(); t++) {
                tables.add(at + t, fresh.get(t));
            }
            renumber();
        }

        private void renumber() {
            count = 0;
            for (int t = 0; t < tables.size(); t++) {
                tables.get(t).setStart(count);
                count += tables.get(t).count();
            }
        }

        /** Tells whether all tables are whole, in order and apart; last and next are lost. */
        boolean isSound(Version last, Version next) {
            for (int t = 0; t < tables.size(); t++) {
                Table table = tables.get(t);
                if (!table.usesItsBlocks(chip)) {
                    return false;
                }
                if (t > 0) {
                    load(table.start(), next);
                    if (last.compareKey(next) >= 0) {
                        return false;
                    }
                }
                if (!isWhole(table, last, next)) {
                    return false;
                }
            }
            return true;
        }

        /** Tells whether a table is in order and as it was written; leaves its last version in last. */
        private boolean isWhole(Table table, Version last, Version next) {
            long sum = 0;
            for (int i = 0; i < table.count(); i++) {
                load(table.start() + i, next);
                if (i > 0 && !last.isBefore(next)) {
                    return false;
                }
                sum = next.addTo(sum);
                last.copy(next);
            }
            return sum == table.sum();
        }
    }

    /** Goes through the versions of several runs at once, in their order. */
    private static final class Walk {
        private final Run[] runs;
        private final int[] at = new int[RUNS];
        private final int[] stop = new int[RUNS];
        private final Version[] heads = new Version[RUNS];
        private final Version version = new Version();
        private final Version next = new Version();
        private boolean hasNext;
        private int until;

        Walk(Run[] runs) {
            this.runs = runs;
            for (int r = 0; r < RUNS; r++) {
                heads[r] = new Version();
            }
        }

        void clear() {
            Arrays.fill(at, 0);
            Arrays.fill(stop, 0);
        }

        void cover(int run, int from, int to) {
            if (run >= 0 && run < RUNS && from < to) {
                at[run] = from;
                stop[run] = to;
                runs[run].load(from, heads[run]);
            }
        }

        void begin() {
            hasNext = takeNext();
        }

        boolean advance() {
            if (!hasNext) {
                return false;
            }
            version.copy(next);
            hasNext = takeNext();
            until = hasNext && next.compareKey(version) == 0 ? next.moment() : FOREVER;
            return true;
        }

        private boolean takeNext() {
            int least = -1;
            for (int r = 0; r < RUNS; r++) {
                if (at[r] < stop[r] && (least < 0 || heads[r].isBefore(heads[least]))) {
                    least = r;
                }
            }
            if (least < 0) {
                return false;
            }
            next.copy(heads[least]);
            at[least]++;
            if (at[least] < stop[least]) {
                runs[least].load(at[least], heads[least]);
            }
            return true;
        }

        Version version() {
            return version;
        }

        /** The moment of the next version of the same key, or FOREVER if none comes. */
        int until() {
            return until;
        }

        boolean isSomethingAt(int moment) {
            return version.isThere() && version.moment() <= moment && moment < until;
        }
    }

    /** Writes versions that come in order to the chip, as tables. */
    private static final class Writer {
        private final Chip chip;
        private final ArrayList<Table> tables = new ArrayList<>();
        private final int[] blocks = new int[LIMIT / PER_BLOCK + 1];
        private int count;
        private long sum;

        Writer(Chip chip) {
            this.chip = chip;
        }

        ArrayList<Table> tables() {
            return tables;
        }

        void begin() {
            tables.clear();
        }

        /** A table ends before a new key alone, so that tables of a level never share one. */
        void add(Version version, boolean isNewKey) {
            if (isNewKey && count >= FULL_TABLE) {
                seal();
            }
            int nth = count / PER_BLOCK;
            if (nth < blocks.length) {
                int at = count % PER_BLOCK * WORDS;
                if (at == 0) {
                    blocks[nth] = chip.take();
                }
                chip.write(blocks[nth], at, version);
                sum = version.addTo(sum);
                count++;
            }
        }

        void seal() {
            if (count > 0) {
                int used = (count + PER_BLOCK - 1) / PER_BLOCK;
                tables.add(new Table(Arrays.copyOf(blocks, used), count, sum));
            }
            count = 0;
            sum = 0;
        }
    }
}

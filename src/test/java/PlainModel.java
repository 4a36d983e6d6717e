import java.util.ArrayList;
import java.util.Arrays;
import java.util.List;
import java.util.NoSuchElementException;
import java.util.TreeSet;

/** What the document says, in its plainest form: every version is kept, and nothing is ever merged. */
final class PlainModel {
    private record Version(byte[] key, int moment, boolean there, int place, int size) {
    }

    private final List<Version> versions = new ArrayList<>();
    private final int[] seen = new int[8];
    private byte[] tape = new byte[0];
    private Version current;
    private int flushed;

    PlainModel() {
        Arrays.fill(seen, -1);
    }

    int feed(int[] five) {
        if (tape.length + 20 > 60) {
            throw new IndexOutOfBoundsException();
        }
        int at = tape.length;
        tape = Arrays.copyOf(tape, at + 20);
        for (int i = 0; i < 20; i++) {
            tape[at + i] = (byte) (five[i / 4] >> 8 * (3 - i % 4));
        }
        return tape.length;
    }

    int end(int n) {
        allow(n >= 0 && n <= tape.length);
        tape = Arrays.copyOf(tape, n);
        return n;
    }

    int put(int place, int size) {
        allow(place >= 0 && size >= 0 && size <= 1000);
        return add(true, place, size);
    }

    int out() {
        return add(false, 0, 0);
    }

    private int add(boolean there, int place, int size) {
        byte[] key = read(1);
        if (versions.size() >= 500) {
            throw new IllegalStateException();
        }
        versions.add(new Version(key, versions.size() + 1, there, place, size));
        return versions.size();
    }

    int open(int view) {
        allow(view >= 0 && view < 8);
        if (seen[view] >= 0) {
            throw new IllegalStateException();
        }
        seen[view] = versions.size();
        return seen[view];
    }

    int close(int view) {
        allow(view >= 0 && view < 8);
        if (seen[view] < 0) {
            throw new IllegalStateException();
        }
        int saw = seen[view];
        seen[view] = -1;
        return saw;
    }

    int find(int view) {
        allow(view >= -1 && view < 8);
        byte[] key = read(1);
        int moment = momentOf(view);
        current = at(key, moment);
        return placeOfCurrent();
    }

    int seek(int view, boolean beyond) {
        allow(view >= -1 && view < 8);
        byte[] from = read(0);
        int moment = momentOf(view);
        current = null;
        for (byte[] key : keys()) {
            int order = Arrays.compareUnsigned(key, from);
            if (current == null && (order > 0 || order == 0 && !beyond)) {
                current = at(key, moment);
            }
        }
        return placeOfCurrent();
    }

    int current(int what) {
        allow(what >= 0 && what <= 3);
        placeOfCurrent();
        return new int[] {current.place, current.size, current.moment, current.key.length}[what];
    }

    long word(int i) {
        placeOfCurrent();
        if (i < 0 || i >= current.key.length) {
            throw new IndexOutOfBoundsException();
        }
        return (long) Tapes.fourOf(current.key, i) << 32 | Tapes.fourOf(current.key, i + 4) & 0xffffffffL;
    }

    int living() {
        int count = 0;
        for (byte[] key : keys()) {
            count += at(key, versions.size()) != null ? 1 : 0;
        }
        return count;
    }

    /** So many outs of a key that has nothing. */
    void letPass(int outs) {
        for (int i = 0; i < outs; i++) {
            versions.add(new Version(new byte[1], versions.size() + 1, false, 0, 0));
        }
    }

    int flush() {
        flushed = versions.size();
        return living();
    }

    /** How many versions wholly merged tables hold, if they hold what a moment needs and no more. */
    int needed() {
        int count = 0;
        for (byte[] key : keys()) {
            count += neededOf(key);
        }
        return count;
    }

    /** What a key has at one seen moment is told once, and that it has it no more at the next. */
    private int neededOf(byte[] key) {
        int count = 0;
        Version told = null;
        for (int moment : seenMoments()) {
            if (isInMemory(key, moment)) {
                return count;
            }
            Version version = at(key, moment);
            count += version != told ? 1 : 0;
            told = version;
        }
        return count;
    }

    private TreeSet<Integer> seenMoments() {
        TreeSet<Integer> moments = new TreeSet<>(List.of(versions.size()));
        for (int moment : seen) {
            if (moment >= 0) {
                moments.add(moment);
            }
        }
        return moments;
    }

    /** Tells whether the last version of a key up to a moment has not been written out yet. */
    private boolean isInMemory(byte[] key, int moment) {
        for (int i = flushed; i < moment; i++) {
            if (Arrays.equals(versions.get(i).key, key)) {
                return true;
            }
        }
        return false;
    }

    private TreeSet<byte[]> keys() {
        TreeSet<byte[]> keys = new TreeSet<>(Arrays::compareUnsigned);
        for (Version version : versions) {
            keys.add(version.key);
        }
        return keys;
    }

    private Version at(byte[] key, int moment) {
        for (int i = moment - 1; i >= 0; i--) {
            if (Arrays.equals(versions.get(i).key, key)) {
                return versions.get(i).there ? versions.get(i) : null;
            }
        }
        return null;
    }

    private int momentOf(int view) {
        if (view >= 0 && seen[view] < 0) {
            throw new IllegalStateException();
        }
        return view < 0 ? versions.size() : seen[view];
    }

    private int placeOfCurrent() {
        if (current == null) {
            throw new NoSuchElementException();
        }
        return current.place;
    }

    private byte[] read(int shortest) {
        allow(tape.length >= shortest && tape.length <= 40);
        byte[] bytes = tape;
        tape = new byte[0];
        return bytes;
    }

    private static void allow(boolean right) {
        if (!right) {
            throw new IllegalArgumentException();
        }
    }
}

import java.util.Arrays;
import java.util.Random;
import java.util.function.LongSupplier;

/** Long mixed runs, each call of which must answer as the plain model does. */
public final class ModelTests {
    private static final int RUN = 512;
    private static final int RUNS = 2000;

    private final Due due;
    private final Random random;
    private final String name;
    private final LevelTables tables = new LevelTables();
    private final PlainModel model = new PlainModel();
    private final byte[][] keys;
    private final int[] weights;
    private int calls;

    private ModelTests(Due due, int seed) {
        this.due = due;
        random = new Random(seed);
        name = "run " + seed;
        keys = new byte[1 + random.nextInt(1 << random.nextInt(8))][];
        int alphabet = 1 + random.nextInt(4);
        for (int k = 0; k < keys.length; k++) {
            keys[k] = newKey(alphabet);
        }
        weights = new int[] {
            10 + random.nextInt(60), random.nextInt(30), random.nextInt(25), random.nextInt(25),
            random.nextInt(4), random.nextInt(4), random.nextInt(30), random.nextInt(8),
            random.nextInt(3), random.nextInt(6), random.nextInt(5), random.nextInt(4),
        };
    }

    public static void main(String[] args) {
        Due due = new Due();
        for (int seed = 0; seed < RUNS && !due.hasWrong(); seed++) {
            ModelTests run = new ModelTests(due, seed);
            if (seed % 5 == 0) {
                run.letPass(400 + run.random.nextInt(100));
            }
            run.go();
        }
        due.finish();
    }

    /** So many are made before the run begins that the 500th is made in it. */
    private void letPass(int made) {
        Inside.letPass(tables, made);
        model.letPass(made);
    }

    private void go() {
        while (calls < RUN && !due.hasWrong()) {
            step();
        }
    }

    private byte[] newKey(int alphabet) {
        byte[] letters = {0, (byte) 255, 'a', (byte) 128};
        int length = random.nextInt(3) == 0 ? 1 + random.nextInt(40) : 1 + random.nextInt(4);
        byte[] key = new byte[length];
        boolean plain = random.nextBoolean();
        for (int i = 0; i < length; i++) {
            key[i] = plain && i != length - 1 ? (byte) 'k' : letters[random.nextInt(alphabet)];
        }
        return key;
    }

    private void step() {
        int pick = random.nextInt(Arrays.stream(weights).sum());
        int kind = 0;
        while (pick >= weights[kind]) {
            pick -= weights[kind];
            kind++;
        }
        switch (kind) {
            case 0 -> {
                lay();
                put(random.nextInt(8) == 0 ? Integer.MAX_VALUE : random.nextInt(1000), random.nextInt(1001));
            }
            case 1 -> {
                lay();
                both("out()", tables::out, model::out);
            }
            case 2 -> {
                lay();
                find(openOrPresent());
            }
            case 3 -> {
                layForSeek();
                seek(openOrPresent());
            }
            case 4 -> open(random.nextInt(8));
            case 5 -> close(random.nextInt(8));
            case 6 -> both("flush()", tables::flush, model::flush);
            case 7 -> both("merge(false)", () -> tables.merge(false), model::living);
            case 8 -> {
                both("merge(true)", () -> tables.merge(true), model::living);
                isWhatIsNeeded();
            }
            case 9 -> lookAtCurrent();
            case 10 -> both("check()", tables::check, model::living);
            default -> anything();
        }
    }

    private void lay() {
        lay(keys[random.nextInt(keys.length)]);
    }

    private void layForSeek() {
        int kind = random.nextInt(4);
        if (kind == 0) {
            return;
        }
        byte[] key = keys[random.nextInt(keys.length)];
        lay(kind == 1 ? Arrays.copyOf(key, 1 + random.nextInt(40)) : key);
    }

    private void lay(byte[] key) {
        end(0);
        for (int at = 0; at < key.length; at += 20) {
            feed(Tapes.fourOf(key, at), Tapes.fourOf(key, at + 4), Tapes.fourOf(key, at + 8),
                    Tapes.fourOf(key, at + 12), Tapes.fourOf(key, at + 16));
        }
        end(key.length);
    }

    private int openOrPresent() {
        return random.nextBoolean() ? -1 : random.nextInt(8);
    }

    private void lookAtCurrent() {
        for (int what = 0; what <= 3; what++) {
            current(what);
        }
        for (int i = 0; i < 40; i += 8) {
            word(i);
        }
    }

    /** One call with arguments around the edges of their ranges, and the tape as it lies. */
    private void anything() {
        int edge = random.nextInt(12) - 2;
        switch (random.nextInt(10)) {
            case 0 -> feed(random.nextInt(), random.nextInt(), random.nextInt(), 0, -1);
            case 1 -> end(random.nextInt(64) - 2);
            case 2 -> put(edge, edge % 2 == 0 ? edge : 995 + edge);
            case 3 -> both("out()", tables::out, model::out);
            case 4 -> open(edge);
            case 5 -> close(edge);
            case 6 -> find(edge);
            case 7 -> seek(edge);
            case 8 -> current(edge);
            default -> word(random.nextInt(44) - 2);
        }
    }

    private void feed(int a, int b, int c, int d, int e) {
        both("feed", () -> tables.feed(a, b, c, d, e), () -> model.feed(new int[] {a, b, c, d, e}));
    }

    private void end(int n) {
        both("end(" + n + ")", () -> tables.end(n), () -> model.end(n));
    }

    private void put(int place, int size) {
        both("put(" + place + ", " + size + ")", () -> tables.put(place, size), () -> model.put(place, size));
    }

    private void open(int view) {
        both("open(" + view + ")", () -> tables.open(view), () -> model.open(view));
    }

    private void close(int view) {
        both("close(" + view + ")", () -> tables.close(view), () -> model.close(view));
    }

    private void find(int view) {
        both("find(" + view + ")", () -> tables.find(view), () -> model.find(view));
    }

    private void seek(int view) {
        boolean beyond = random.nextBoolean();
        both("seek(" + view + ", " + beyond + ")", () -> tables.seek(view, beyond),
                () -> model.seek(view, beyond));
    }

    private void current(int what) {
        both("current(" + what + ")", () -> tables.current(what), () -> model.current(what));
    }

    private void word(int i) {
        both("word(" + i + ")", () -> tables.word(i), () -> model.word(i));
    }

    private void isWhatIsNeeded() {
        int[] layout = Inside.layoutOf(tables);
        due.answers(name + ", call " + calls + ": the versions on the deepest level", model.needed(),
                () -> layout[layout.length - 1]);
    }

    /** The last step may have more calls than are left. */
    private void both(String call, LongSupplier program, LongSupplier plain) {
        if (calls == RUN) {
            return;
        }
        calls++;
        due.compare(name + ", call " + calls + ": " + call, Due.answerOf(plain), Due.answerOf(program));
    }
}

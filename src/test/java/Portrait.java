import java.nio.ByteBuffer;
import java.util.Arrays;

/** All that the face tells of an object, as texts that can be compared. */
final class Portrait {
    private static final int TAPE = 60;
    private static final int LONGEST_KEY = 40;

    private Portrait() {
    }

    /** Changes nothing: the tape is cut to the length that it has. */
    static int tapeLength(LevelTables x) {
        for (int n = TAPE; n > 0; n--) {
            int length = n;
            if (!Due.answerOf(() -> x.end(length)).startsWith("throws.")) {
                return n;
            }
        }
        return 0;
    }

    static String current(LevelTables x) {
        StringBuilder text = new StringBuilder();
        for (int w = 0; w <= 3; w++) {
            int what = w;
            text.append(Due.answerOf(() -> x.current(what))).append(' ');
        }
        for (int i = 0; i < LONGEST_KEY; i += 8) {
            int from = i;
            text.append(Due.answerOf(() -> x.word(from))).append(' ');
        }
        return text.toString();
    }

    /** What the present moment and the views have, the moments, and the tape, which is put as a key. */
    static String rest(LevelTables x) {
        StringBuilder text = new StringBuilder();
        text.append("check ").append(x.check());
        if (tapeLength(x) > LONGEST_KEY) {
            x.end(LONGEST_KEY);
        }
        text.append(" put ").append(Due.answerOf(() -> x.put(77, 7)));
        x.end(0);
        for (int view = -1; view <= 7; view++) {
            text.append("\n view ").append(view).append(':').append(keysOf(x, view));
        }
        for (int v = 0; v <= 7; v++) {
            int view = v;
            text.append("\n close ").append(v).append(' ').append(Due.answerOf(() -> x.close(view)));
        }
        text.append("\n present ").append(x.open(0));
        text.append(" flush ").append(x.flush()).append(" merge ").append(x.merge(true));
        return text.toString();
    }

    private static String keysOf(LevelTables x, int view) {
        StringBuilder text = new StringBuilder();
        String answer = Due.answerOf(() -> x.seek(view, false));
        while (!answer.startsWith("throws.")) {
            text.append(" [").append(current(x)).append(']');
            Tapes.lay(x, currentKey(x));
            answer = Due.answerOf(() -> x.seek(view, true));
        }
        return text.append(' ').append(answer).toString();
    }

    private static byte[] currentKey(LevelTables x) {
        int length = x.current(3);
        ByteBuffer bytes = ByteBuffer.allocate(LONGEST_KEY);
        for (int i = 0; i < length; i += 8) {
            bytes.putLong(x.word(i));
        }
        return Arrays.copyOf(bytes.array(), length);
    }
}

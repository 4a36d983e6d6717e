import java.nio.charset.StandardCharsets;

/** Lays bytes on the tape of an object whose tape is empty. */
final class Tapes {
    private Tapes() {
    }

    static LevelTables lay(LevelTables x, String text) {
        return lay(x, text.getBytes(StandardCharsets.ISO_8859_1));
    }

    static LevelTables lay(LevelTables x, byte[] bytes) {
        int length = 0;
        while (length < bytes.length) {
            length = x.feed(fourOf(bytes, length), fourOf(bytes, length + 4), fourOf(bytes, length + 8),
                    fourOf(bytes, length + 12), fourOf(bytes, length + 16));
        }
        if (length > bytes.length) {
            x.end(bytes.length);
        }
        return x;
    }

    static int fourOf(byte[] bytes, int from) {
        int four = 0;
        for (int i = from; i < from + 4; i++) {
            four = four << 8 | (i < bytes.length ? bytes[i] & 255 : 0);
        }
        return four;
    }
}

import java.util.List;
import java.util.function.Consumer;

/** Promise 14: check answers -1 for each kind of damage, which only a look behind the face can do. */
public final class DamageTests {
    private static final int WORDS = 6;
    private static final int PER_BLOCK = 8;

    private static final Due DUE = new Due();

    public static void main(String[] args) {
        damage("nothing is wrong", 79, x -> { });
        damage("a byte of a key is another", -1, x -> firstBlock(x, 0)[0] ^= 1);
        damage("a place is another", -1, x -> firstBlock(x, 0)[WORDS - 1] ^= 1);
        damage("a table has lost versions", -1, x -> Inside.set(Inside.tableOf(x, 0), "count", 1));
        damage("a block is none of the chip's", -1, x -> blocksOf(x, 0)[0] = 5000);
        damage("a block was given back", -1, x -> Inside.takenOf(x)[blocksOf(x, 0)[0]] = 0);
        damage("a table is out of order", -1, DamageTests::exchangeVersions);
        damage("tables are out of order", -1, DamageTests::exchangeTables);
        damage("two tables share a key", -1, DamageTests::shareKey);
        damage("a block is used twice", -1,
                x -> Inside.tablesOf(x, Inside.DEEPEST - 1).add(Inside.tableOf(x, 0)));
        damage("a block is written without being erased", -1, x -> write(x, givenBack(x)));
        damage("a block is written that never was erased", -1, x -> write(x, 999));
        damage("the last version of all is another", -1, DamageTests::changeTheLast);
        damage("the count that flush tells is another", 79, x -> Inside.set(x, "living", 5));
        eachLevelIsLookedAt();
        DUE.finish();
    }

    /** One table lies on each level, and each in turn has one bit changed. */
    private static void eachLevelIsLookedAt() {
        LevelTables x = new LevelTables();
        for (int level = Inside.DEEPEST; level >= 0; level--) {
            Tapes.lay(x, "k" + level).put(level, 1);
            x.flush();
            for (int step = 0; step < level; step++) {
                x.merge(false);
            }
        }
        for (int level = 0; level <= Inside.DEEPEST; level++) {
            Object table = Inside.tablesOf(x, level).get(0);
            long[] block = Inside.chipOf(x)[Inside.blocksOf(table)[0]];
            block[0] ^= 1;
            DUE.answers("check with a damage on level " + level, -1, x::check);
            block[0] ^= 1;
            DUE.answers("check with none on level " + level, 4, x::check);
        }
    }

    private static void damage(String what, int due, Consumer<LevelTables> how) {
        LevelTables x = new LevelTables();
        for (int i = 0; i < 80; i++) {
            Tapes.lay(x, "k" + (char) ('0' + i)).put(i, 1);
        }
        Tapes.lay(x, "k0").out();
        x.flush();
        x.merge(true);
        how.accept(x);
        for (int level = 0; level <= Inside.DEEPEST; level++) {
            Inside.call(Inside.levelOf(x, level), "renumber");
        }
        DUE.answers("check, where " + what, due, x::check);
    }

    /** The table's sum fits its words again, so that their order alone is wrong. */
    private static void exchangeVersions(LevelTables x) {
        long[] block = firstBlock(x, 0);
        for (int w = 0; w < WORDS; w++) {
            long first = block[w];
            block[w] = block[w + WORDS];
            block[w + WORDS] = first;
        }
        sumAgain(x, 0);
    }

    private static void exchangeTables(LevelTables x) {
        List<Object> tables = Inside.tablesOf(x, Inside.DEEPEST);
        tables.add(tables.remove(0));
    }

    /** The second table begins with the key that the first one ends with, at a later moment. */
    private static void shareKey(LevelTables x) {
        int[] blocks = blocksOf(x, 0);
        long[] from = Inside.chipOf(x)[blocks[blocks.length - 1]];
        long[] to = firstBlock(x, 1);
        System.arraycopy(from, (PER_BLOCK - 1) * WORDS, to, 0, WORDS);
        to[WORDS - 1] += 1L << 42;
        sumAgain(x, 1);
    }

    private static void changeTheLast(LevelTables x) {
        int t = Inside.tablesOf(x, Inside.DEEPEST).size() - 1;
        int last = Inside.countOf(Inside.tableOf(x, t)) - 1;
        long[] block = Inside.chipOf(x)[blocksOf(x, t)[last / PER_BLOCK]];
        block[last % PER_BLOCK * WORDS + WORDS - 1] ^= 1;
    }

    private static void sumAgain(LevelTables x, int t) {
        long sum = 0;
        int words = Inside.countOf(Inside.tableOf(x, t)) * WORDS;
        for (int i = 0; i < words; i++) {
            int block = blocksOf(x, t)[i / (PER_BLOCK * WORDS)];
            sum = sum * 31 + Inside.chipOf(x)[block][i % (PER_BLOCK * WORDS)];
        }
        Inside.set(Inside.tableOf(x, t), "sum", sum);
    }

    private static void write(LevelTables x, int block) {
        Inside.call(Inside.get(x, "chip"), "write", block, 0, Inside.get(x, "key"));
    }

    /** A block that no table uses any more, and that was not erased since. */
    private static int givenBack(LevelTables x) {
        int block = 0;
        while (Inside.takenOf(x)[block] != 0 || Inside.chipOf(x)[block] == null) {
            block++;
        }
        return block;
    }

    private static int[] blocksOf(LevelTables x, int t) {
        return Inside.blocksOf(Inside.tableOf(x, t));
    }

    private static long[] firstBlock(LevelTables x, int t) {
        return Inside.chipOf(x)[blocksOf(x, t)[0]];
    }
}

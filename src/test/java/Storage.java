/** Where versions may lie: no answer of find, seek, current, word or check may depend on it. */
enum Storage {
    MEMORY, LEVEL_0, LEVEL_1, LEVEL_2, LEVEL_3, WHOLE;

    /** Brings all that lies in memory there. */
    LevelTables settle(LevelTables x) {
        if (this != MEMORY) {
            x.flush();
        }
        for (int step = LEVEL_0.ordinal(); step < ordinal() && this != WHOLE; step++) {
            x.merge(false);
        }
        if (this == WHOLE) {
            x.merge(true);
        }
        return x;
    }
}

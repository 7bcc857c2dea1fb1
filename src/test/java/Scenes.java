/** Objects in states that many tests begin with. */
final class Scenes {
    private static final int ALWAYS = -1;

    private Scenes() {
    }

    /** Block 0 is WRITTEN, with a RECORD of this SIZE and life for each KEY; its value is the KEY and 100. */
    static BlockVault written(int size, int life, int... keys) {
        BlockVault x = new BlockVault();
        write(x, size, life, keys);
        return x;
    }

    /** Puts such RECORDS, all in one block, and writes it behind. */
    static void write(BlockVault x, int size, int life, int... keys) {
        for (int key : keys) {
            x.put(key, 100 + key, size, life, ALWAYS);
        }
        x.seal();
        x.flush(1);
    }

    /** Three SEALED blocks, 0 to 2, and a CURRENT one, 3, all full: KEYS 0..7, each of SIZE 6. */
    static BlockVault busy(int life) {
        BlockVault x = new BlockVault();
        for (int key = 0; key < 8; key++) {
            x.put(key, 100 + key, 6, life, ALWAYS);
        }
        return x;
    }

    /** No block is FREE, none CURRENT, none SEALED: KEYS 0..15, each of SIZE 6, in WRITTEN blocks. */
    static BlockVault full(int life) {
        BlockVault x = new BlockVault();
        for (int key = 0; key < 16; key += 2) {
            write(x, 6, life, key, key + 1);
        }
        return x;
    }

    /** No block is FREE, none SEALED; block 7, with KEYS 14 and 15, is CURRENT and full. */
    static BlockVault fullWithCurrent(int life) {
        BlockVault x = new BlockVault();
        for (int key = 0; key < 14; key += 2) {
            write(x, 6, life, key, key + 1);
        }
        x.put(14, 114, 6, life, ALWAYS);
        x.put(15, 115, 6, life, ALWAYS);
        return x;
    }

    /** DOWN, with KEYS 0 and 1 in the IMAGE of block 0; KEY 2 was in a SEALED block, KEY 3 in the CURRENT one. */
    static BlockVault down() {
        BlockVault x = written(2, 0, 0, 1);
        x.put(2, 102, 1, 0, ALWAYS);
        x.seal();
        x.put(3, 103, 1, 0, ALWAYS);
        x.crash(-1);
        return x;
    }
}

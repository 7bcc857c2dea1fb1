/** The boundary cases of promises 14 to 19: entry, next, rank, block, image, count. */
final class LookBoundaries {
    private static final int REFUSED = Sentences.REFUSED, DOWN = Sentences.DOWN, NONE = Sentences.NONE;
    private static final int BUSY = Sentences.BUSY;
    private static final int LEAST = Sentences.LEAST, MOST = Sentences.MOST, ALWAYS = Sentences.ALWAYS;
    private static final int FREE = Sentences.FREE, CURRENT = Sentences.CURRENT, SEALED = Sentences.SEALED;
    private static final int WRITTEN = Sentences.WRITTEN, EMPTIED = Sentences.EMPTIED;

    private final Sentences s;

    LookBoundaries(Sentences s) {
        this.s = s;
    }

    void all() {
        s.each(
                this::entryKind, this::entryFields, this::entryPlace, this::entryNone, this::entryKey,
                this::entryOthers, this::entryDown, this::next, this::nextNone, this::nextDown, this::rank,
                this::rankDown, this::blockState, this::blockUsed, this::blockSizes, this::blockImage,
                this::blockWaits, this::blockWaitsNot, this::blockOthers, this::blockDown, this::image,
                this::imageNone, this::imageNoBlock, this::countThere, this::countEntries, this::countTombstones,
                this::countClock, this::countStamp, this::countFlushed, this::countMoved, this::countAfterCrash,
                this::countDown, this::countWhileDown, this::countOthers);
    }

    private void entryKind() {
        s.promise(14, "Of the ENTRY of a KEY what 0: 1 for a RECORD, 2 for a TOMBSTONE;");
        BlockVault x = new BlockVault();
        s.ok(x.put(0, 1, 1, 5, ALWAYS), x.put(15, 1, 1, 5, ALWAYS));
        s.due("a RECORD", x.entry(0, 0), 1);
        s.ok(x.remove(0, true));
        s.due("a TOMBSTONE", x.entry(0, 0), 2);
        s.ok(x.tick(5));
        s.due("an EXPIRED RECORD", x.entry(15, 0), 1);
    }

    private void entryFields() {
        s.promise(14, "1: the GENERATION; 2: the VOID time; 3: the STAMP; 4: the SIZE; 5: the block;");
        BlockVault x = Scenes.written(6, 0, 9);
        s.ok(x.tick(10), x.put(9, 1, 1, 0, ALWAYS), x.put(9, 1, 4, 20, ALWAYS));
        s.entry("a RECORD", x, 9, 1, 3, 30, 3, 4, 1, 1);
        s.ok(x.remove(9, true));
        s.entry("a TOMBSTONE", x, 9, 2, 0, 0, 4, 1, 1, 2);
        BlockVault y = Scenes.full(1000);
        s.entry("the first of a full store", y, 0, 1, 1, 1000, 1, 6, 0, 0);
        s.entry("the last of a full store", y, 15, 1, 1, 1000, 16, 6, 7, 1);
    }

    private void entryPlace() {
        s.promise(14, "6: its place in the CONTENT, from 0.");
        BlockVault x = new BlockVault();
        for (int key = 0; key < 13; key++) {
            s.ok(x.put(key, 1, 1, 0, ALWAYS));
        }
        s.due("the first", x.entry(0, 6), 0);
        s.due("the twelfth", x.entry(11, 6), 11);
        s.due("the first of the next block", x.entry(12, 6), 0);
        s.ok(x.put(0, 1, 1, 0, ALWAYS));
        s.due("the places before it stay", x.entry(1, 6), 1);
    }

    private void entryNone() {
        s.promise(14, "NONE if there is no ENTRY;");
        BlockVault x = Scenes.written(1, 0, 1);
        for (int what = 0; what < 7; what++) {
            s.due("entry(0, " + what + ")", x.entry(0, what), NONE);
            s.due("entry(15, " + what + ")", x.entry(15, what), NONE);
        }
        s.ok(x.remove(1, false));
        s.due("it went", x.entry(1, 0), NONE);
    }

    private void entryKey() {
        s.promise(14, "REFUSED if key is none,");
        BlockVault x = Scenes.full(0);
        for (int key : new int[] {-1, 16, LEAST, MOST}) {
            for (int what = 0; what < 7; what++) {
                s.due("entry(" + key + ", " + what + ")", x.entry(key, what), REFUSED);
            }
        }
        s.due("KEY 0", x.entry(0, 0), 1);
        s.due("KEY 15", x.entry(15, 0), 1);
    }

    private void entryOthers() {
        s.promise(14, "or for others.");
        BlockVault x = Scenes.written(1, 0, 0);
        for (int what : new int[] {-1, 7, LEAST, MOST}) {
            s.due("entry(0, " + what + ")", x.entry(0, what), REFUSED);
            s.due("before NONE, entry(1, " + what + ")", x.entry(1, what), REFUSED);
        }
        s.due("what 0", x.entry(0, 0), 1);
        s.due("what 6", x.entry(0, 6), 0);
    }

    private void entryDown() {
        s.promise(14, "DOWN.");
        BlockVault x = Scenes.down();
        s.due("what was there", x.entry(0, 0), DOWN);
        s.due("what was not", x.entry(9, 6), DOWN);
        s.due("REFUSED first", x.entry(0, 7), REFUSED);
        s.due("REFUSED first", x.entry(16, 0), REFUSED);
    }

    /** ENTRIES of the KEYS 0 and 7, of 4, a TOMBSTONE, and of 15, EXPIRED. */
    private static BlockVault four() {
        BlockVault x = new BlockVault();
        x.put(15, 1, 1, 3, ALWAYS);
        x.put(4, 1, 1, 0, ALWAYS);
        x.remove(4, true);
        x.put(0, 1, 1, 0, ALWAYS);
        x.put(7, 1, 1, 0, ALWAYS);
        x.tick(3);
        return x;
    }

    private void next() {
        s.promise(15, "The least KEY above this one (any int) that has an ENTRY;");
        BlockVault x = four();
        int[][] due = {{LEAST, 0}, {-2, 0}, {-1, 0}, {0, 4}, {3, 4}, {4, 7}, {6, 7}, {7, 15}, {14, 15}};
        for (int[] pair : due) {
            s.due("next " + pair[0], x.next(pair[0]), pair[1]);
        }
        BlockVault y = Scenes.full(0);
        for (int key = -1; key < 15; key++) {
            s.due("of all, next " + key, y.next(key), key + 1);
        }
    }

    private void nextNone() {
        s.promise(15, "NONE if there is none.");
        BlockVault x = four();
        for (int key : new int[] {15, 16, MOST - 1, MOST}) {
            s.due("next " + key, x.next(key), NONE);
        }
        s.ok(x.sweep());
        s.due("next 7, when 15 is swept", x.next(7), NONE);
        s.due("of a new object", new BlockVault().next(LEAST), NONE);
    }

    private void nextDown() {
        s.promise(15, "DOWN.");
        for (int key : new int[] {LEAST, -1, 0, 15, MOST}) {
            s.due("next " + key, Scenes.down().next(key), DOWN);
        }
    }

    private void rank() {
        s.promise(16, "How many ENTRIES have a KEY below this one (any int).");
        BlockVault x = four();
        int[][] due = {{LEAST, 0}, {LEAST + 1, 0}, {-1, 0}, {0, 0}, {1, 1}, {4, 1}, {5, 2}, {7, 2}, {8, 3}, {15, 3},
            {16, 4}, {MOST, 4}};
        for (int[] pair : due) {
            s.due("rank " + pair[0], x.rank(pair[0]), pair[1]);
        }
        s.due("of all", Scenes.full(0).rank(16), 16);
        s.due("of all but the last", Scenes.full(0).rank(15), 15);
        s.due("of a new object", new BlockVault().rank(MOST), 0);
    }

    private void rankDown() {
        s.promise(16, "DOWN.");
        for (int key : new int[] {LEAST, -1, 0, 16, MOST}) {
            s.due("rank " + key, Scenes.down().rank(key), DOWN);
        }
    }

    private void blockState() {
        s.promise(17, "Of a block what 0: its STATE;");
        BlockVault x = Scenes.written(6, 0, 0, 1);
        s.due("WRITTEN", x.block(0, 0), 3);
        s.ok(x.put(2, 1, 6, 0, ALWAYS));
        s.due("CURRENT", x.block(1, 0), 1);
        s.ok(x.seal());
        s.due("SEALED", x.block(1, 0), 2);
        s.ok(x.remove(0, false), x.remove(1, false));
        s.due("EMPTIED", x.block(0, 0), 4);
        s.ok(x.flush(1));
        s.due("FREE", x.block(0, 0), 0);
        s.due("the last block", Scenes.full(0).block(7, 0), 3);
    }

    private void blockUsed() {
        s.promise(17, "1: USED;");
        BlockVault x = Scenes.written(6, 0, 0, 1);
        s.due("all are LIVE", x.block(0, 1), 12);
        s.ok(x.remove(0, false));
        s.due("one is LIVE", x.block(0, 1), 6);
        s.ok(x.remove(1, false));
        s.due("none is LIVE", x.block(0, 1), 0);
    }

    private void blockSizes() {
        s.promise(17, "2: the sum of the SIZES of its CONTENT;");
        BlockVault x = new BlockVault();
        s.due("none", x.block(0, 2), 0);
        s.ok(x.put(0, 1, 6, 0, ALWAYS));
        s.due("one", x.block(0, 2), 6);
        s.ok(x.put(0, 1, 5, 0, ALWAYS));
        s.due("with what is LIVE no more", x.block(0, 2), 11);
        s.ok(x.remove(0, true));
        s.due("full", x.block(0, 2), 12);
        s.ok(x.seal());
        s.due("SEALED", x.block(0, 2), 12);
        s.ok(x.flush(1));
        s.due("WRITTEN", x.block(0, 2), 12);
    }

    private void blockImage() {
        s.promise(17, "3: how many COPIES its IMAGE has;");
        BlockVault x = new BlockVault();
        for (int key = 0; key < 12; key++) {
            s.ok(x.put(key, 1, 1, 1, ALWAYS));
        }
        s.due("none", x.block(0, 3), 0);
        s.ok(x.seal(), x.flush(1));
        s.due("twelve", x.block(0, 3), 12);
        s.ok(x.tick(1), x.sweep());
        s.block("FREE", x, 0, FREE, 0, 0, 12, 0);
        s.ok(x.put(0, 1, 1, 0, ALWAYS));
        s.block("CURRENT", x, 0, CURRENT, 1, 1, 12, 0);
        s.ok(x.seal(), x.flush(1));
        s.due("one", x.block(0, 3), 1);
        s.due("two, of SIZE 6", Scenes.full(0).block(7, 3), 2);
    }

    private void blockWaits() {
        s.promise(17, "4: for how many blocks it WAITS");
        BlockVault x = Scenes.written(6, 0, 14, 15);
        for (int key = 0; key < 8; key++) {
            s.ok(x.put(key, 1, 6, 0, ALWAYS));
        }
        s.ok(x.remove(14, false), x.remove(15, false));
        s.due("three SEALED ones and the CURRENT one", x.block(0, 4), 4);
        for (int left = 3; left > 0; left--) {
            s.ok(x.flush(1));
            s.due("for one that is WRITTEN it WAITS no more", x.block(0, 4), left);
        }
        s.due("CURRENT is left", x.block(4, 0), CURRENT);
        s.due("EMPTIED still", x.block(0, 0), EMPTIED);
        s.ok(x.seal());
        s.due("for one that is SEALED it WAITS", x.block(0, 4), 1);
        s.ok(x.flush(1));
        s.block("FREE", x, 0, FREE, 0, 0, 2, 0);
    }

    private void blockWaitsNot() {
        s.promise(17, "(0 if it is not EMPTIED).");
        BlockVault x = Scenes.written(6, 0, 0, 1);
        s.ok(x.put(2, 1, 6, 0, ALWAYS), x.seal(), x.put(3, 1, 6, 0, ALWAYS));
        s.states("each STATE", x, WRITTEN, SEALED, CURRENT, FREE);
        for (int b = 0; b < 8; b++) {
            s.due("block " + b, x.block(b, 4), 0);
        }
        s.ok(x.remove(0, false), x.remove(1, false), x.seal(), x.flush(2));
        s.states("FREE again", x, FREE, WRITTEN, WRITTEN);
        s.due("FREE again", x.block(0, 4), 0);
        s.ok(x.put(4, 1, 1, 0, ALWAYS));
        s.due("CURRENT again", x.block(0, 4), 0);
    }

    private void blockOthers() {
        s.promise(17, "REFUSED for others.");
        BlockVault x = Scenes.full(0);
        for (int b : new int[] {-1, 8, LEAST, MOST}) {
            for (int what = 0; what < 5; what++) {
                s.due("block(" + b + ", " + what + ")", x.block(b, what), REFUSED);
            }
        }
        for (int what : new int[] {-1, 5, LEAST, MOST}) {
            s.due("block(0, " + what + ")", x.block(0, what), REFUSED);
            s.due("block(7, " + what + ")", x.block(7, what), REFUSED);
        }
        s.due("block(7, 4)", x.block(7, 4), 0);
        s.due("block(7, 3)", x.block(7, 3), 2);
        s.due("while DOWN", Scenes.down().block(8, 0), REFUSED);
        s.due("while DOWN", Scenes.down().block(0, 5), REFUSED);
    }

    private void blockDown() {
        s.promise(17, "While DOWN all blocks are FREE.");
        BlockVault x = Scenes.busy(0);
        s.ok(x.flush(1), x.remove(0, false), x.remove(1, false));
        s.states("before", x, EMPTIED, SEALED, SEALED, CURRENT);
        s.ok(x.crash(-1));
        for (int b = 0; b < 8; b++) {
            s.block("while DOWN", x, b, FREE, 0, 0, b == 0 ? 2 : 0, 0);
        }
        BlockVault y = Scenes.full(0);
        s.ok(y.crash(-1));
        for (int b = 0; b < 8; b++) {
            s.block("while DOWN, all were WRITTEN", y, b, FREE, 0, 0, 2, 0);
        }
    }

    private void image() {
        s.promise(18, "The STAMP of COPY k (0 first) in the IMAGE of a block;");
        BlockVault x = Scenes.full(0);
        s.due("the first of the first block", x.image(0, 0), 1);
        s.due("the second of the first block", x.image(0, 1), 2);
        s.due("the first of the last block", x.image(7, 0), 15);
        s.due("the second of the last block", x.image(7, 1), 16);
        s.ok(x.remove(0, false), x.remove(1, false));
        s.due("of a FREE block", x.image(0, 1), 2);
        s.ok(x.put(0, 1, 1, 0, ALWAYS));
        s.due("of a CURRENT block, not of its CONTENT", x.image(0, 0), 1);
        s.ok(x.crash(-1));
        s.due("while DOWN", x.image(7, 1), 16);
    }

    private void imageNone() {
        s.promise(18, "NONE if there is none;");
        BlockVault x = Scenes.full(0);
        for (int k : new int[] {2, 3, 12, -1, LEAST, MOST}) {
            s.due("image(0, " + k + ")", x.image(0, k), NONE);
            s.due("image(7, " + k + ")", x.image(7, k), NONE);
        }
        s.due("of a new object", new BlockVault().image(0, 0), NONE);
        s.due("while DOWN", Scenes.down().image(0, 2), NONE);
        s.due("while DOWN", Scenes.down().image(1, 0), NONE);
    }

    private void imageNoBlock() {
        s.promise(18, "REFUSED if there is no such block.");
        BlockVault x = Scenes.full(0);
        for (int b : new int[] {-1, 8, LEAST, MOST}) {
            s.due("image(" + b + ", 0)", x.image(b, 0), REFUSED);
            s.due("image(" + b + ", -1)", x.image(b, -1), REFUSED);
        }
        s.due("while DOWN", Scenes.down().image(8, 0), REFUSED);
    }

    private void countThere() {
        s.promise(19, "What 0: how many KEYS are THERE;");
        s.due("none", new BlockVault().count(0), 0);
        s.due("of a TOMBSTONE, an EXPIRED one and two others", four().count(0), 2);
        BlockVault x = Scenes.full(5);
        s.due("all", x.count(0), 16);
        s.ok(x.tick(4));
        s.due("before the VOID time", x.count(0), 16);
        s.ok(x.tick(1));
        s.due("at the VOID time", x.count(0), 0);
    }

    private void countEntries() {
        s.promise(19, "1: ENTRIES;");
        s.due("none", new BlockVault().count(1), 0);
        s.due("with a TOMBSTONE and an EXPIRED one", four().count(1), 4);
        s.due("all", Scenes.full(0).count(1), 16);
    }

    private void countTombstones() {
        s.promise(19, "2: ENTRIES that name TOMBSTONES;");
        BlockVault x = four();
        s.due("one", x.count(2), 1);
        s.ok(x.remove(0, true));
        s.due("two", x.count(2), 2);
        s.ok(x.put(0, 1, 1, 0, ALWAYS));
        s.due("one is a RECORD again", x.count(2), 1);
        BlockVault y = new BlockVault();
        for (int key = 0; key < 16; key++) {
            s.ok(y.put(key, 1, 1, 1, ALWAYS));
        }
        s.due("none", y.count(2), 0);
        s.ok(y.evict(16));
        s.due("all", y.count(2), 16);
    }

    private void countClock() {
        s.promise(19, "3: the CLOCK;");
        BlockVault x = new BlockVault();
        s.due("at first", x.count(3), 0);
        s.ok(x.tick(1000), x.tick(1));
        s.due("then", x.count(3), 1001);
        s.ok(x.crash(-1));
        s.due("while DOWN", x.count(3), 1001);
        s.ok(x.tick(2));
        s.due("it goes on", x.count(3), 1003);
    }

    private void countStamp() {
        s.promise(19, "4: the next STAMP;");
        BlockVault x = new BlockVault();
        s.due("at first", x.count(4), 1);
        s.ok(x.put(0, 1, 1, 0, ALWAYS));
        s.due("then", x.count(4), 2);
        s.due("of a full store", Scenes.full(0).count(4), 17);
        BlockVault y = Scenes.busy(0);
        s.due("put", y.put(9, 1, 1, 0, ALWAYS), BUSY);
        s.due("as it was", y.count(4), 9);
    }

    private void countFlushed() {
        s.promise(19, "5: how many blocks flush has WRITTEN so far,");
        BlockVault x = Scenes.busy(0);
        s.due("none", x.count(5), 0);
        s.ok(x.flush(3));
        s.due("three", x.count(5), 3);
        s.ok(x.flush(1));
        s.due("none was SEALED", x.count(5), 3);
        s.ok(x.remove(6, false), x.remove(7, false), x.seal(), x.flush(1));
        s.due("with one that is FREE at once", x.count(5), 4);
        BlockVault y = new BlockVault();
        s.ok(y.put(0, 1, 1, 0, ALWAYS), y.seal(), y.crash(1), y.start());
        s.due("not what a crash or a start makes", y.count(5), 0);
    }

    private void countMoved() {
        s.promise(19, "6: COPIES moved by compact so far");
        BlockVault x = Scenes.written(1, 0, 0, 1, 2);
        s.due("none", x.count(6), 0);
        s.ok(x.compact(12));
        s.due("three", x.count(6), 3);
        s.ok(x.seal(), x.flush(1), x.remove(0, false), x.compact(12));
        s.due("two more", x.count(6), 5);
        s.due("compact", x.compact(12), NONE);
        s.due("no more", x.count(6), 5);
    }

    private void countAfterCrash() {
        s.promise(19, "(a crash changes nothing of both);");
        BlockVault x = Scenes.written(1, 0, 0, 1, 2);
        s.ok(x.compact(12), x.seal(), x.crash(1));
        s.due("flushed, while DOWN", x.count(5), 1);
        s.due("moved, while DOWN", x.count(6), 3);
        s.ok(x.start());
        s.due("flushed", x.count(5), 1);
        s.due("moved", x.count(6), 3);
        s.ok(x.compact(12));
        s.due("moved goes on", x.count(6), 6);
    }

    private void countDown() {
        s.promise(19, "7: 1 if DOWN, else 0.");
        BlockVault x = new BlockVault();
        s.due("at first", x.count(7), 0);
        s.ok(x.crash(-1));
        s.due("DOWN", x.count(7), 1);
        s.ok(x.start());
        s.due("started", x.count(7), 0);
    }

    private void countWhileDown() {
        s.promise(19, "(0 to 2 and 4 are 0 while DOWN.)");
        BlockVault x = four();
        s.ok(x.seal(), x.flush(1));
        int[] before = {2, 4, 1, 3, 6, 1, 0, 0};
        int[] down = {0, 0, 0, 3, 0, 1, 0, 1};
        for (int what = 0; what < 8; what++) {
            s.due("before, count " + what, x.count(what), before[what]);
        }
        s.ok(x.crash(-1));
        for (int what = 0; what < 8; what++) {
            s.due("while DOWN, count " + what, x.count(what), down[what]);
        }
    }

    private void countOthers() {
        s.promise(19, "REFUSED for others.");
        for (int what : new int[] {-1, 8, LEAST, MOST}) {
            s.due("count " + what, Scenes.full(0).count(what), REFUSED);
            s.due("while DOWN, count " + what, Scenes.down().count(what), REFUSED);
        }
    }
}

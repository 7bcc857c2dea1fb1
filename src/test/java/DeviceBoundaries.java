/** The boundary cases of promises 7 to 13: tick, sweep, seal, flush, compact, crash, start. */
final class DeviceBoundaries {
    private static final int REFUSED = Sentences.REFUSED, DOWN = Sentences.DOWN;
    private static final int NONE = Sentences.NONE, BUSY = Sentences.BUSY;
    private static final long NOTHING = Sentences.NOTHING;
    private static final int LEAST = Sentences.LEAST, MOST = Sentences.MOST, ALWAYS = Sentences.ALWAYS;
    private static final int FREE = Sentences.FREE, CURRENT = Sentences.CURRENT, SEALED = Sentences.SEALED;
    private static final int WRITTEN = Sentences.WRITTEN, EMPTIED = Sentences.EMPTIED;

    private final Sentences s;

    DeviceBoundaries(Sentences s) {
        this.s = s;
    }

    void all() {
        s.each(
                this::tick, this::tickDown, this::sweepExpired, this::sweepTombstones, this::sweepOtherCopies,
                this::sweepItsStamp, this::sweepHowMany, this::sweepKeepsImages, this::sweepDown, this::seal,
                this::sealNone, this::sealDown, this::sealBusy, this::flushTimes, this::flushLongest,
                this::flushImage, this::flushHowMany, this::flushDown, this::compactLimit, this::compactLeastUsed,
                this::compactLeastNumber, this::compactMoves, this::compactBusy, this::compactFull, this::compactNone,
                this::compactDown, this::crashTorn, this::crashTornOverImage, this::crashLoses, this::crashNoSealed,
                this::crashBeyond, this::crashDown, this::startGreatestStamp, this::startSeveral, this::startExpired,
                this::startWritten, this::startFree, this::startNextStamp, this::startNoImage, this::startHowMany,
                this::startNotDown);
    }

    private void tick() {
        s.promise(7, "The CLOCK grows by n (0..1000, else REFUSED): what it is then.");
        BlockVault x = new BlockVault();
        s.due("tick 0", x.tick(0), 0);
        s.due("tick 1000", x.tick(1000), 1000);
        s.due("tick 1", x.tick(1), 1001);
        s.due("tick 0", x.tick(0), 1001);
        s.due("CLOCK", x.count(3), 1001);
        for (int n : new int[] {-1, 1001, LEAST, MOST}) {
            s.changesNothing("tick " + n, () -> Scenes.written(1, 1, 0), y -> y.tick(n), REFUSED);
        }
    }

    private void tickDown() {
        s.promise(7, "It goes on while DOWN, too.");
        BlockVault x = Scenes.written(1, 5, 0, 1);
        s.ok(x.put(1, 1, 1, 6, ALWAYS), x.seal(), x.flush(1), x.tick(2), x.crash(-1));
        s.due("CLOCK is not lost", x.count(3), 2);
        s.due("tick", x.tick(3), 5);
        s.due("CLOCK", x.count(3), 5);
        s.due("REFUSED", x.tick(-1), REFUSED);
        s.due("REFUSED", x.tick(1001), REFUSED);
        s.due("start finds one EXPIRED by that", x.start(), 1);
        s.due("CLOCK", x.count(3), 5);
    }

    private void sweepExpired() {
        s.promise(8, "ENTRIES go that name an EXPIRED RECORD;");
        BlockVault x = new BlockVault();
        s.ok(x.put(0, 1, 1, 5, ALWAYS), x.put(15, 1, 1, 5, ALWAYS), x.put(7, 1, 1, 6, ALWAYS));
        s.ok(x.put(8, 1, 1, 0, ALWAYS), x.tick(4));
        s.due("before the VOID time", x.sweep(), 0);
        s.ok(x.tick(1));
        s.due("at the VOID time", x.sweep(), 2);
        s.due("KEY 0", x.entry(0, 0), NONE);
        s.due("KEY 15", x.entry(15, 0), NONE);
        s.due("VOID time 6", x.entry(7, 0), 1);
        s.ok(x.tick(1000));
        s.due("after the VOID time", x.sweep(), 1);
        s.due("VOID time 0", x.entry(8, 0), 1);
    }

    private void sweepTombstones() {
        s.promise(8, "so do those that name a TOMBSTONE if no other COPY of the KEY is in any CONTENT or IMAGE");
        BlockVault x = Scenes.written(6, 0, 1);
        s.ok(x.remove(1, true));
        s.states("the other COPY's block", x, EMPTIED, CURRENT);
        s.due("in the IMAGE of an EMPTIED block", x.sweep(), 0);
        s.ok(x.seal(), x.flush(1));
        s.states("the other COPY's block", x, FREE, WRITTEN);
        s.due("in the IMAGE of a FREE block", x.sweep(), 0);
        s.ok(x.put(2, 1, 6, 0, ALWAYS));
        s.states("the other COPY's block", x, CURRENT, WRITTEN);
        s.due("in the IMAGE of a CURRENT block", x.sweep(), 0);
        s.ok(x.seal());
        s.due("in the IMAGE of a SEALED block", x.sweep(), 0);
        s.ok(x.flush(1));
        s.due("nowhere", x.sweep(), 1);
        s.due("no ENTRY", x.entry(1, 0), NONE);
        s.due("TOMBSTONES", x.count(2), 0);
        BlockVault y = Scenes.written(6, 0, 1, 2);
        s.ok(y.remove(1, true));
        s.states("the other COPY's block", y, WRITTEN, CURRENT);
        s.due("in a WRITTEN block", y.sweep(), 0);
    }

    private void sweepOtherCopies() {
        s.promise(8, "in any CONTENT or IMAGE");
        BlockVault x = new BlockVault();
        s.ok(x.put(1, 1, 6, 0, ALWAYS), x.remove(1, true));
        s.due("in the CONTENT of the CURRENT block alone", x.sweep(), 0);
        s.ok(x.seal());
        s.due("in the CONTENT of a SEALED block alone", x.sweep(), 0);
        BlockVault y = new BlockVault();
        s.ok(y.put(1, 1, 6, 0, ALWAYS), y.seal(), y.remove(1, true));
        s.due("in the CONTENT of another SEALED block", y.sweep(), 0);
        BlockVault z = Scenes.written(1, 0, 0, 1);
        s.ok(z.put(2, 1, 1, 0, ALWAYS), z.remove(2, true), z.seal(), z.crash(2), z.start());
        s.due("of a start: the other COPY of KEY 2 is in an IMAGE", z.sweep(), 0);
    }

    private void sweepItsStamp() {
        s.promise(8, "than such as have its STAMP;");
        BlockVault x = Scenes.written(6, 0, 1);
        s.ok(x.remove(1, true), x.seal(), x.flush(1));
        Scenes.write(x, 6, 0, 2, 3);
        s.due("the other COPY is gone", x.image(0, 0), 3);
        s.ok(x.put(4, 1, 1, 0, ALWAYS));
        s.due("the TOMBSTONE moves", x.compact(2), 1);
        s.due("its COPY in the IMAGE that it had", x.image(1, 0), x.entry(1, 3));
        s.due("its block is another one", x.entry(1, 5), 2);
        s.due("sweep", x.sweep(), 1);
        s.due("no ENTRY", x.entry(1, 0), NONE);
    }

    private void sweepHowMany() {
        s.promise(8, "their COPIES are LIVE no more: how many.");
        s.due("of a new object", new BlockVault().sweep(), 0);
        BlockVault x = new BlockVault();
        for (int key = 0; key < 16; key++) {
            s.ok(x.put(key, 1, 1, 1, ALWAYS));
        }
        s.ok(x.tick(1));
        s.due("USED", x.block(0, 1), 12);
        s.due("all sixteen", x.sweep(), 16);
        s.due("USED", x.block(0, 1), 0);
        s.due("USED", x.block(1, 1), 0);
        s.due("SIZES", x.block(0, 2), 12);
        s.due("ENTRIES", x.count(1), 0);
        s.due("next STAMP", x.count(4), 17);
        s.due("again", x.sweep(), 0);
        BlockVault y = Scenes.written(6, 1, 0, 1);
        s.ok(y.tick(1));
        s.due("WRITTEN with two that are LIVE", y.block(0, 0), WRITTEN);
        s.due("both", y.sweep(), 2);
        s.due("none is LIVE", y.block(0, 0), FREE);
    }

    private void sweepKeepsImages() {
        s.promise(8, "(Blocks that are EMPTIED by that keep their IMAGES.)");
        BlockVault x = Scenes.written(6, 5, 0, 1);
        s.ok(x.put(2, 1, 1, 0, ALWAYS), x.tick(5), x.sweep());
        s.block("EMPTIED", x, 0, EMPTIED, 0, 0, 2, 1);
        s.due("the first COPY", x.image(0, 0), 1);
        s.due("the second COPY", x.image(0, 1), 2);
    }

    private void sweepDown() {
        s.promise(8, "DOWN.");
        s.changesNothing("sweep", Scenes::down, x -> x.sweep(), DOWN);
    }

    private void seal() {
        s.promise(9, "The CURRENT block, if there is one, is SEALED: 1;");
        BlockVault x = new BlockVault();
        s.ok(x.put(0, 1, 1, 0, ALWAYS));
        s.due("seal", x.seal(), 1);
        s.block("not full", x, 0, SEALED, 1, 1, 0, 0);
        BlockVault y = new BlockVault();
        s.ok(y.put(0, 1, 1, 0, ALWAYS), y.remove(0, false));
        s.due("seal", y.seal(), 1);
        s.block("without a LIVE COPY", y, 0, SEALED, 0, 1, 0, 0);
    }

    private void sealNone() {
        s.promise(9, "0 if there is none.");
        s.changesNothing("of a new object", BlockVault::new, x -> x.seal(), 0);
        s.changesNothing("WRITTEN ones alone", () -> Scenes.written(1, 0, 0), x -> x.seal(), 0);
        BlockVault x = new BlockVault();
        s.ok(x.put(0, 1, 1, 0, ALWAYS), x.seal());
        s.due("again", x.seal(), 0);
        s.due("SEALED still", x.block(0, 0), SEALED);
        BlockVault y = new BlockVault();
        for (int key = 0; key < 3; key++) {
            s.ok(y.put(key, 1, 1, 0, ALWAYS), y.seal());
        }
        s.due("three SEALED, none CURRENT", y.seal(), 0);
    }

    private void sealDown() {
        s.promise(9, "DOWN;");
        s.changesNothing("seal", Scenes::down, x -> x.seal(), DOWN);
    }

    private void sealBusy() {
        s.promise(9, "BUSY if there is one and three are SEALED.");
        s.changesNothing("three SEALED", () -> Scenes.busy(0), x -> x.seal(), BUSY);
        BlockVault x = Scenes.busy(0);
        s.ok(x.flush(1));
        s.due("two SEALED", x.seal(), 1);
        BlockVault y = Scenes.fullWithCurrent(0);
        s.due("where no block is FREE", y.seal(), 1);
        s.due("SEALED", y.block(7, 0), SEALED);
    }

    private void flushTimes() {
        s.promise(10, "Up to n (1..3, else REFUSED) times");
        for (int n : new int[] {0, 4, -1, LEAST, MOST}) {
            s.changesNothing("flush " + n, () -> Scenes.busy(0), x -> x.flush(n), REFUSED);
        }
        for (int n = 1; n <= 3; n++) {
            BlockVault x = Scenes.busy(0);
            s.due("flush " + n, x.flush(n), n);
            s.states("flush " + n, x, WRITTEN, n > 1 ? WRITTEN : SEALED, n > 2 ? WRITTEN : SEALED, CURRENT);
        }
    }

    /** Block 2, with KEY 3, is SEALED longer than block 0, with KEY 4; block 1 is WRITTEN. */
    private static BlockVault leastSealedLast() {
        BlockVault x = Scenes.written(6, 0, 0, 1);
        x.put(2, 102, 6, 0, ALWAYS);
        x.remove(0, false);
        x.remove(1, false);
        x.seal();
        x.put(3, 103, 6, 0, ALWAYS);
        x.seal();
        x.flush(1);
        x.put(4, 104, 6, 0, ALWAYS);
        x.seal();
        return x;
    }

    private void flushLongest() {
        s.promise(10, "the block that is SEALED longest is WRITTEN:");
        BlockVault x = leastSealedLast();
        s.states("the least number is SEALED last", x, SEALED, WRITTEN, SEALED);
        s.due("flush", x.flush(1), 1);
        s.states("the longest", x, SEALED, WRITTEN, WRITTEN);
        s.due("flush", x.flush(1), 1);
        s.states("the other", x, WRITTEN, WRITTEN, WRITTEN);
    }

    private void flushImage() {
        s.promise(10, "its IMAGE is its CONTENT:");
        BlockVault x = Scenes.written(6, 0, 0, 1);
        s.ok(x.remove(0, false), x.remove(1, false), x.put(2, 1, 1, 0, ALWAYS), x.put(2, 2, 2, 0, ALWAYS));
        s.ok(x.put(3, 1, 3, 0, ALWAYS), x.seal());
        s.block("the old IMAGE", x, 0, SEALED, 5, 6, 2, 0);
        s.ok(x.flush(1));
        s.block("the new IMAGE, and the CONTENT stays", x, 0, WRITTEN, 5, 6, 3, 0);
        for (int k = 0; k < 3; k++) {
            s.due("also what is LIVE no more, COPY " + k, x.image(0, k), 3 + k);
        }
        s.due("no more", x.image(0, 3), NONE);
        BlockVault y = Scenes.written(1, 0, 0, 1);
        s.ok(y.remove(0, false), y.remove(1, false), y.put(2, 1, 1, 0, ALWAYS), y.seal(), y.flush(1));
        s.due("a shorter IMAGE", y.block(0, 3), 1);
        s.due("no second COPY", y.image(0, 1), NONE);
    }

    private void flushHowMany() {
        s.promise(10, "how many were.");
        s.changesNothing("of a new object", BlockVault::new, x -> x.flush(3), 0);
        BlockVault x = new BlockVault();
        s.ok(x.put(0, 1, 1, 0, ALWAYS));
        s.due("CURRENT is not SEALED", x.flush(1), 0);
        s.due("CURRENT still", x.block(0, 0), CURRENT);
        s.ok(x.seal(), x.put(1, 1, 1, 0, ALWAYS), x.seal());
        s.due("two of three", x.flush(3), 2);
        s.due("none is left", x.flush(3), 0);
    }

    private void flushDown() {
        s.promise(10, "DOWN.");
        s.changesNothing("flush", Scenes::down, x -> x.flush(1), DOWN);
        s.due("REFUSED first", Scenes.down().flush(0), REFUSED);
        s.due("REFUSED first", Scenes.down().flush(4), REFUSED);
    }

    /** Blocks 0 to 2 are WRITTEN, with USED of 6, 3 and 3; none is CURRENT. */
    private static BlockVault sparse() {
        BlockVault x = Scenes.written(6, 0, 0, 1);
        Scenes.write(x, 3, 0, 2, 3);
        Scenes.write(x, 3, 0, 4, 5);
        x.remove(1, false);
        x.remove(2, false);
        x.remove(5, false);
        return x;
    }

    private void compactLimit() {
        s.promise(11, "Of the WRITTEN blocks with USED below limit (1..12, else REFUSED)");
        for (int limit : new int[] {0, 13, -1, LEAST, MOST}) {
            s.changesNothing("limit " + limit, DeviceBoundaries::sparse, x -> x.compact(limit), REFUSED);
        }
        s.changesNothing("limit 1: none is so sparse", DeviceBoundaries::sparse, x -> x.compact(1), NONE);
        s.changesNothing("USED is the limit", DeviceBoundaries::sparse, x -> x.compact(3), NONE);
        s.due("USED is 1 below the limit", sparse().compact(4), 1);
        BlockVault x = Scenes.written(6, 0, 0, 1);
        s.due("USED 12, limit 12", x.compact(12), NONE);
        BlockVault y = Scenes.written(1, 0, 0);
        s.due("USED 1, limit 2", y.compact(2), 1);
        BlockVault z = Scenes.busy(0);
        s.ok(z.remove(0, false), z.remove(7, false));
        s.due("SEALED and CURRENT ones are not WRITTEN", z.compact(12), NONE);
    }

    private void compactLeastUsed() {
        s.promise(11, "the one with the least USED,");
        BlockVault x = Scenes.written(6, 0, 0, 1);
        Scenes.write(x, 4, 0, 2, 3);
        Scenes.write(x, 5, 0, 4, 5);
        s.ok(x.remove(0, false), x.remove(2, false), x.remove(4, false));
        s.due("compact", x.compact(12), 1);
        s.states("USED 6, 4, 5", x, WRITTEN, EMPTIED, WRITTEN, CURRENT);
        s.due("KEY 3 is moved", x.entry(3, 5), 3);
        s.due("compact", x.compact(12), 1);
        s.due("KEY 5 is the next", x.entry(5, 5), 3);
        s.due("KEY 1 is not moved", x.entry(1, 5), 0);
    }

    private void compactLeastNumber() {
        s.promise(11, "of several the least number:");
        BlockVault x = sparse();
        s.due("compact", x.compact(12), 1);
        s.states("blocks 1 and 2 have the same USED", x, WRITTEN, EMPTIED, WRITTEN, CURRENT);
        s.due("KEY 3 is moved", x.entry(3, 5), 3);
        s.due("KEY 4 is not", x.entry(4, 5), 2);
    }

    private void compactMoves() {
        s.promise(11, "its LIVE COPIES, in order, are APPENDED to the CURRENT one, as they are,");
        BlockVault x = new BlockVault();
        s.ok(x.put(9, 90, 2, 3, ALWAYS), x.put(5, 50, 1, 0, ALWAYS), x.put(9, 91, 2, 3, ALWAYS));
        s.ok(x.put(1, 10, 1, 0, ALWAYS), x.remove(1, true), x.put(0, 7, 1, 0, ALWAYS), x.seal(), x.flush(1));
        s.ok(x.put(2, 20, 1, 0, ALWAYS), x.tick(3));
        s.due("compact", x.compact(6), 4);
        s.entry("by place, not by KEY", x, 5, 1, 1, 0, 2, 1, 1, 1);
        s.entry("EXPIRED, and LIVE", x, 9, 1, 2, 3, 3, 2, 1, 2);
        s.entry("a TOMBSTONE", x, 1, 2, 0, 0, 5, 1, 1, 3);
        s.entry("the last", x, 0, 1, 1, 0, 6, 1, 1, 4);
        s.due("its value", x.get(5), 50);
        s.due("moved", x.count(6), 4);
        s.block("nothing else is moved", x, 1, CURRENT, 6, 6, 0, 0);
        s.block("the block is EMPTIED", x, 0, EMPTIED, 0, 0, 6, 1);
        BlockVault y = Scenes.written(1, 0, 0, 1);
        s.due("where none is CURRENT", y.compact(12), 2);
        s.states("one is then", y, EMPTIED, CURRENT);
        BlockVault z = Scenes.written(5, 0, 0, 1);
        s.ok(z.put(2, 1, 6, 0, ALWAYS));
        s.due("where the CURRENT one is full before the end", z.compact(12), 2);
        s.due("the first", z.entry(0, 5), 1);
        s.due("the second", z.entry(1, 5), 2);
        s.states("it is SEALED", z, EMPTIED, SEALED, CURRENT);
        s.due("WAITS for both", z.block(0, 4), 2);
    }

    private void compactBusy() {
        s.promise(11, "until one finds it BUSY or FULL: how many were.");
        BlockVault x = new BlockVault();
        s.ok(x.put(10, 1, 2, 0, ALWAYS), x.put(11, 1, 3, 0, ALWAYS), x.put(12, 1, 1, 0, ALWAYS));
        s.ok(x.seal(), x.flush(1));
        for (int key = 0; key < 7; key++) {
            s.ok(x.put(key, 1, 6, 0, ALWAYS));
        }
        s.ok(x.put(7, 1, 3, 0, ALWAYS));
        s.due("BUSY for the second", x.compact(12), 1);
        s.due("the first is moved", x.entry(10, 5), 4);
        s.due("the second is not", x.entry(11, 5), 0);
        s.due("nor the third, though it has room", x.entry(12, 5), 0);
        s.block("WRITTEN still", x, 0, WRITTEN, 4, 6, 3, 0);
        s.due("moved", x.count(6), 1);
        s.due("BUSY for the first", x.compact(12), 0);
        s.due("moved", x.count(6), 1);
        s.block("WRITTEN still", x, 0, WRITTEN, 4, 6, 3, 0);
    }

    private static BlockVault fullAndSparse() {
        BlockVault x = Scenes.full(0);
        x.remove(3, false);
        return x;
    }

    private static BlockVault fullWithCurrentAndSparse() {
        BlockVault x = Scenes.fullWithCurrent(0);
        x.remove(3, false);
        return x;
    }

    private void compactFull() {
        s.promise(11, "finds it BUSY or FULL: how many were.");
        s.changesNothing("FULL for the first", DeviceBoundaries::fullAndSparse, x -> x.compact(12), 0);
        s.changesNothing("FULL with a CURRENT one", DeviceBoundaries::fullWithCurrentAndSparse,
                x -> x.compact(12), 0);
        BlockVault x = new BlockVault();
        for (int b = 0; b < 6; b++) {
            Scenes.write(x, 6, 0, 2 * b, 2 * b + 1);
        }
        Scenes.write(x, 2, 0, 12, 13, 14);
        s.ok(x.put(15, 1, 5, 0, ALWAYS), x.put(15, 1, 4, 0, ALWAYS));
        s.due("FULL for the second", x.compact(12), 1);
        s.due("the first is moved", x.entry(12, 5), 7);
        s.due("the second is not", x.entry(13, 5), 6);
        s.due("the CURRENT one is not SEALED", x.block(7, 0), CURRENT);
    }

    private void compactNone() {
        s.promise(11, "NONE if there is no such block.");
        s.changesNothing("of a new object", BlockVault::new, x -> x.compact(12), NONE);
        s.changesNothing("none is WRITTEN", () -> Scenes.busy(0), x -> x.compact(12), NONE);
        s.changesNothing("none is sparse", () -> Scenes.full(0), x -> x.compact(12), NONE);
        BlockVault x = Scenes.written(3, 0, 0);
        s.ok(x.put(1, 1, 1, 0, ALWAYS), x.remove(0, false));
        s.due("an EMPTIED one is not WRITTEN", x.compact(12), NONE);
        s.ok(x.seal(), x.flush(1), x.remove(1, false));
        s.due("nor is a FREE one", x.compact(12), NONE);
        s.due("NONE before BUSY", Scenes.busy(0).compact(12), NONE);
    }

    private void compactDown() {
        s.promise(11, "DOWN.");
        s.changesNothing("compact", Scenes::down, x -> x.compact(12), DOWN);
        s.due("REFUSED first", Scenes.down().compact(0), REFUSED);
        s.due("REFUSED first", Scenes.down().compact(13), REFUSED);
    }

    /** Block 0, with three COPIES, is SEALED longer than block 1, with one. */
    private static BlockVault twoSealed() {
        BlockVault x = new BlockVault();
        x.put(0, 100, 2, 0, ALWAYS);
        x.put(0, 200, 3, 0, ALWAYS);
        x.put(1, 101, 4, 0, ALWAYS);
        x.seal();
        x.put(2, 102, 1, 0, ALWAYS);
        x.seal();
        return x;
    }

    private void crashTorn() {
        s.promise(12, "If k is not -1 the block that is SEALED longest gets the first k COPIES of its CONTENT as its "
                + "IMAGE;");
        int[] found = {0, 1, 1, 2};
        long[] values = {NOTHING, 100, 200, 200};
        for (int k = 0; k <= 3; k++) {
            BlockVault x = twoSealed();
            s.due("crash " + k, x.crash(k), 1);
            s.due("COPIES", x.block(0, 3), k);
            s.due("the last one", x.image(0, k - 1), k == 0 ? NONE : k);
            s.due("no more", x.image(0, k), NONE);
            s.due("the block that is SEALED later", x.block(1, 3), 0);
            s.due("start", x.start(), found[k]);
            s.due("KEY 0", x.get(0), values[k]);
            s.due("KEY 1", x.get(1), k == 3 ? 101 : NOTHING);
        }
        BlockVault y = twoSealed();
        s.ok(y.flush(1), y.put(3, 1, 1, 0, ALWAYS), y.seal());
        s.due("the longest is block 1 now", y.crash(1), 1);
        s.due("block 0", y.block(0, 3), 3);
        s.due("block 1", y.image(1, 0), 4);
        s.due("block 2", y.block(2, 3), 0);
        s.due("that is no flush", y.count(5), 1);
        BlockVault z = twoSealed();
        s.due("crash -1", z.crash(-1), 1);
        s.due("no IMAGE", z.block(0, 3), 0);
        BlockVault w = leastSealedLast();
        s.due("the longest is not the least number", w.crash(1), 1);
        s.due("its COPY", w.image(2, 0), 4);
        s.due("the other's IMAGE as it was", w.block(0, 3), 2);
    }

    private void crashTornOverImage() {
        s.promise(12, "gets the first k COPIES of its CONTENT as its IMAGE;");
        for (int k = -1; k <= 1; k++) {
            BlockVault x = Scenes.written(6, 0, 0, 1);
            s.ok(x.remove(0, false), x.remove(1, false), x.put(2, 1, 6, 0, ALWAYS), x.seal());
            s.due("the IMAGE that was", x.block(0, 3), 2);
            s.due("crash " + k, x.crash(k), 1);
            s.due("COPIES after " + k, x.block(0, 3), k == -1 ? 2 : k);
            s.due("the first after " + k, x.image(0, 0), k == -1 ? 1 : k == 0 ? NONE : 3);
            s.due("start after " + k, x.start(), k == -1 ? 2 : k);
        }
    }

    private void crashLoses() {
        s.promise(12, "then ENTRIES, STATES and CONTENTS are lost, and the store is DOWN: 1.");
        BlockVault x = Scenes.written(6, 0, 0, 1);
        Scenes.write(x, 6, 0, 2, 3);
        s.ok(x.put(4, 1, 6, 0, ALWAYS), x.seal(), x.put(5, 1, 6, 0, ALWAYS), x.remove(0, false), x.remove(1, false));
        s.states("before", x, EMPTIED, WRITTEN, SEALED, CURRENT);
        s.due("crash", x.crash(-1), 1);
        for (int b = 0; b < 8; b++) {
            s.block("after", x, b, FREE, 0, 0, b < 2 ? 2 : 0, 0);
        }
        s.due("ENTRIES", x.count(1), 0);
        s.due("DOWN", x.count(7), 1);
        s.due("start", x.start(), 4);
        s.states("started", x, WRITTEN, WRITTEN, FREE, FREE);
        s.due("KEY 4 is lost", x.get(4), NOTHING);
        s.due("KEY 5 is lost", x.get(5), NOTHING);
        s.due("of a new object", new BlockVault().crash(-1), 1);
        s.due("where it is BUSY", Scenes.busy(0).crash(-1), 1);
        s.due("where it is FULL", Scenes.full(0).crash(-1), 1);
    }

    private void crashNoSealed() {
        s.promise(12, "Tested in this order: REFUSED if k is not -1, and there is no SEALED block (so also while "
                + "DOWN),");
        for (int k : new int[] {0, 1, -2, LEAST, MOST}) {
            s.changesNothing("of a new object, " + k, BlockVault::new, x -> x.crash(k), REFUSED);
            s.changesNothing("a WRITTEN one, " + k, () -> Scenes.written(1, 0, 0, 1), x -> x.crash(k), REFUSED);
            s.changesNothing("while DOWN, " + k, Scenes::down, x -> x.crash(k), REFUSED);
        }
        BlockVault y = new BlockVault();
        s.ok(y.put(0, 1, 1, 0, ALWAYS));
        s.due("a CURRENT one is not SEALED", y.crash(0), REFUSED);
        s.due("nor with its one COPY", y.crash(1), REFUSED);
        BlockVault z = twoSealed();
        s.ok(z.crash(2));
        s.due("it was SEALED before the crash", z.crash(2), REFUSED);
    }

    private void crashBeyond() {
        s.promise(12, "or k is not 0 to how many COPIES it has;");
        for (int k : new int[] {4, 12, -2, LEAST, MOST}) {
            s.changesNothing("crash " + k, DeviceBoundaries::twoSealed, x -> x.crash(k), REFUSED);
        }
        s.due("as many as it has", twoSealed().crash(3), 1);
        s.due("none of them", twoSealed().crash(0), 1);
        BlockVault x = new BlockVault();
        for (int key = 0; key < 12; key++) {
            s.ok(x.put(key, 1, 1, 0, ALWAYS));
        }
        s.ok(x.seal());
        s.due("thirteen of twelve", x.crash(13), REFUSED);
        s.due("twelve of twelve", x.crash(12), 1);
        s.due("start", x.start(), 12);
        BlockVault y = new BlockVault();
        s.ok(y.put(0, 1, 1, 0, ALWAYS), y.seal(), y.put(1, 1, 1, 0, ALWAYS), y.put(2, 1, 1, 0, ALWAYS), y.seal());
        s.due("how many the longest SEALED has, not another", y.crash(2), REFUSED);
    }

    private void crashDown() {
        s.promise(12, "DOWN if it is so already.");
        s.changesNothing("crash", Scenes::down, x -> x.crash(-1), DOWN);
        BlockVault x = Scenes.down();
        s.due("REFUSED first", x.crash(0), REFUSED);
        s.ok(x.start());
        s.due("not DOWN", x.crash(-1), 1);
    }

    private void startGreatestStamp() {
        s.promise(13, "The store starts again: for each KEY of which COPIES are in IMAGES the one with the greatest "
                + "STAMP counts");
        BlockVault x = new BlockVault();
        s.ok(x.put(0, 10, 3, 0, ALWAYS), x.put(15, 20, 3, 0, ALWAYS), x.put(0, 11, 3, 0, ALWAYS));
        s.ok(x.seal(), x.put(15, 21, 3, 0, ALWAYS), x.put(0, 12, 3, 0, ALWAYS), x.seal(), x.flush(1), x.crash(1));
        s.due("start", x.start(), 2);
        s.entry("the later one of one IMAGE", x, 0, 1, 2, 0, 3, 3, 0, 2);
        s.due("its value", x.get(0), 11);
        s.entry("the later one of two IMAGES", x, 15, 1, 2, 0, 4, 3, 1, 0);
        s.due("its value", x.get(15), 21);
        s.due("no COPY, no ENTRY", x.count(1), 2);
        BlockVault y = Scenes.written(6, 0, 0);
        s.ok(y.put(1, 1, 6, 0, ALWAYS), y.put(0, 2, 6, 0, ALWAYS), y.seal(), y.flush(1));
        s.ok(y.remove(1, false), y.put(0, 3, 6, 0, ALWAYS), y.seal(), y.flush(1));
        s.due("the greatest is in block 0", y.image(0, 0), 4);
        s.ok(y.crash(-1), y.start());
        s.due("the greatest STAMP, not the greatest number", y.get(0), 3);
    }

    private void startSeveral() {
        s.promise(13, "(if it is in several, that in the block with the least number, there the first one):");
        BlockVault x = Scenes.written(4, 0, 0, 1);
        s.ok(x.remove(1, false), x.put(2, 1, 1, 0, ALWAYS), x.compact(5), x.seal(), x.flush(1));
        s.due("COPY in block 0", x.image(0, 0), 1);
        s.due("COPY in block 1", x.image(1, 1), 1);
        s.ok(x.crash(-1));
        s.due("start", x.start(), 3);
        s.entry("the least number", x, 0, 1, 1, 0, 1, 4, 0, 0);
        s.block("LIVE in one block", x, 0, WRITTEN, 8, 8, 2, 0);
        s.block("not in the other", x, 1, WRITTEN, 1, 5, 2, 0);
        s.ok(x.remove(0, true));
        s.block("the other is not EMPTIED by that", x, 1, WRITTEN, 1, 5, 2, 0);
        s.ok(x.remove(2, false));
        s.block("but by that", x, 1, EMPTIED, 0, 0, 2, 1);
    }

    private void startExpired() {
        s.promise(13, "if it is a TOMBSTONE, or not EXPIRED, an ENTRY names it.");
        BlockVault x = new BlockVault();
        s.ok(x.put(0, 1, 1, 0, ALWAYS), x.remove(0, true), x.put(1, 1, 1, 5, ALWAYS), x.put(2, 1, 1, 6, ALWAYS));
        s.ok(x.put(3, 1, 1, 0, ALWAYS), x.put(3, 2, 1, 5, ALWAYS), x.put(4, 1, 1, 0, ALWAYS));
        s.ok(x.seal(), x.flush(1), x.crash(-1), x.tick(5));
        s.due("start", x.start(), 2);
        s.entry("a TOMBSTONE", x, 0, 2, 0, 0, 2, 1, 0, 1);
        s.due("VOID time 5 at CLOCK 5", x.entry(1, 0), NONE);
        s.due("VOID time 6 at CLOCK 5", x.entry(2, 0), 1);
        s.due("EXPIRED, and the older one does not count", x.entry(3, 0), NONE);
        s.due("VOID time 0", x.entry(4, 0), 1);
        s.due("ENTRIES", x.count(1), 3);
        s.due("TOMBSTONES", x.count(2), 1);
        BlockVault y = Scenes.full(3);
        s.ok(y.crash(-1), y.tick(2), y.start());
        s.due("all one before the VOID time", y.count(1), 16);
        s.ok(y.crash(-1), y.tick(1), y.start());
        s.due("none at the VOID time", y.count(1), 0);
    }

    private void startWritten() {
        s.promise(13, "Blocks with LIVE COPIES in their IMAGES are WRITTEN, with the whole IMAGE as CONTENT,");
        BlockVault x = new BlockVault();
        s.ok(x.put(0, 1, 4, 0, ALWAYS), x.put(0, 1, 3, 0, ALWAYS), x.put(1, 1, 2, 5, ALWAYS), x.seal(), x.flush(1));
        s.ok(x.tick(5), x.crash(-1), x.start());
        s.block("with what is LIVE no more, too", x, 0, WRITTEN, 3, 9, 3, 0);
        s.due("places as in the IMAGE", x.entry(0, 6), 1);
        BlockVault y = new BlockVault();
        s.ok(y.put(0, 1, 4, 0, ALWAYS), y.remove(0, true), y.seal(), y.flush(1), y.crash(-1));
        s.due("start", y.start(), 0);
        s.block("a TOMBSTONE is LIVE", y, 0, WRITTEN, 1, 5, 2, 0);
    }

    private void startFree() {
        s.promise(13, "the others FREE.");
        BlockVault x = Scenes.written(6, 0, 0);
        s.ok(x.put(0, 1, 6, 0, ALWAYS), x.seal(), x.flush(1));
        Scenes.write(x, 6, 3, 1, 2);
        s.ok(x.tick(3), x.put(3, 1, 1, 0, ALWAYS), x.crash(-1), x.start());
        s.states("only EXPIRED COPIES in block 0, none in block 2", x, FREE, WRITTEN, FREE, FREE, FREE, FREE, FREE,
                FREE);
        s.block("no CONTENT, and the IMAGE stays", x, 0, FREE, 0, 0, 2, 0);
        s.due("none is CURRENT", x.seal(), 0);
        s.ok(x.put(4, 1, 1, 0, ALWAYS));
        s.due("the first FREE one is used", x.entry(4, 5), 0);
    }

    private void startNextStamp() {
        s.promise(13, "The next STAMP is one more than the greatest in any IMAGE");
        BlockVault x = Scenes.written(1, 1, 0, 1, 2);
        s.ok(x.put(3, 1, 1, 0, ALWAYS), x.put(4, 1, 1, 0, ALWAYS), x.tick(1), x.crash(-1));
        s.due("start", x.start(), 0);
        s.due("of a FREE block's EXPIRED COPY", x.count(4), 4);
        s.ok(x.put(5, 1, 1, 0, ALWAYS));
        s.due("the STAMP of a COPY that was lost", x.entry(5, 3), 4);
        BlockVault y = twoSealed();
        s.ok(y.crash(1), y.start());
        s.due("of a torn IMAGE", y.count(4), 2);
        BlockVault z = Scenes.written(6, 0, 0);
        s.ok(z.put(1, 1, 6, 0, ALWAYS), z.remove(0, false), z.seal(), z.flush(1));
        s.ok(z.put(2, 1, 6, 0, ALWAYS), z.seal(), z.flush(1));
        s.due("the greatest is in block 0", z.image(0, 0), 3);
        s.ok(z.crash(-1), z.start());
        s.due("not that of the last block", z.count(4), 4);
    }

    private void startNoImage() {
        s.promise(13, "(1 if there is none):");
        BlockVault x = new BlockVault();
        s.ok(x.crash(-1));
        s.due("of a new object", x.start(), 0);
        s.due("next STAMP", x.count(4), 1);
        BlockVault y = Scenes.busy(0);
        s.ok(y.crash(0));
        s.due("nothing was written", y.start(), 0);
        s.due("next STAMP", y.count(4), 1);
        s.ok(y.put(9, 1, 1, 0, ALWAYS));
        s.due("STAMP", y.entry(9, 3), 1);
        s.due("its block", y.entry(9, 5), 0);
    }

    private void startHowMany() {
        s.promise(13, "how many KEYS are THERE.");
        BlockVault x = Scenes.full(5);
        s.ok(x.crash(-1));
        s.due("all sixteen", x.start(), 16);
        s.ok(x.crash(-1), x.tick(4));
        s.due("before the VOID time", x.start(), 16);
        s.ok(x.crash(-1), x.tick(1));
        s.due("at the VOID time", x.start(), 0);
        BlockVault y = Scenes.written(1, 0, 0, 1);
        s.ok(y.remove(0, true), y.seal(), y.flush(1), y.crash(-1));
        s.due("a TOMBSTONE is not THERE", y.start(), 1);
    }

    private void startNotDown() {
        s.promise(13, "DOWN if it is not DOWN.");
        s.changesNothing("of a new object", BlockVault::new, x -> x.start(), DOWN);
        s.changesNothing("with SEALED blocks", DeviceBoundaries::twoSealed, x -> x.start(), DOWN);
        BlockVault x = Scenes.down();
        s.due("DOWN", x.start(), 2);
        s.due("again", x.start(), DOWN);
    }
}

import java.util.function.Supplier;

/** The boundary cases that the document's terms name. */
final class TermsBoundaries {
    private static final int REFUSED = Sentences.REFUSED, DOWN = Sentences.DOWN, CONFLICT = Sentences.CONFLICT;
    private static final int NONE = Sentences.NONE, BUSY = Sentences.BUSY, FULL = Sentences.FULL;
    private static final long NOTHING = Sentences.NOTHING;
    private static final int LEAST = Sentences.LEAST, MOST = Sentences.MOST;
    private static final int ALWAYS = Sentences.ALWAYS;
    private static final int IF_NOT_THERE = Sentences.IF_NOT_THERE, IF_THERE = Sentences.IF_THERE;
    private static final int FREE = Sentences.FREE, CURRENT = Sentences.CURRENT, SEALED = Sentences.SEALED;
    private static final int WRITTEN = Sentences.WRITTEN, EMPTIED = Sentences.EMPTIED;

    private static final String LAST_CALL = "An object is used for at most 512 calls after it has been made; "
            + "what later calls answer is free.";

    private final Sentences s;

    TermsBoundaries(Sentences s) {
        this.s = s;
    }

    void all() {
        s.each(
                this::whatItIs, this::roundAndRound, this::farAheadInTime, this::keys, this::records,
                this::tombstones, this::oneEntry, this::expired, this::atFirst, this::blocks, this::statesOfBlocks,
                this::contents, this::images, this::used, this::appendWithoutCurrent, this::appendBeyondTwelve,
                this::appendBusy, this::appendFull, this::appendRefused, this::appendSeals, this::appendComesLast,
                this::appendNames, this::appendTakesLife, this::emptied, this::notEmptied, this::waits,
                this::waitIsOver, this::freeAtOnce, this::stamps, this::moving, this::downUntilStart,
                this::refusedFirst, this::refusedBeforeTheRest, this::thenDown, this::thenWhatIsNamed,
                this::thenBusyAndFull, this::refusedByANumber, this::refusedByDown, this::refusedByWhatIsNamed,
                this::refusedByAppending, this::constants, this::nothing);
    }

    private void whatItIs() {
        s.begin("What it is", "A store of records with an index in memory and their bodies in blocks of a device: "
                + "writes fill a block, full blocks are written behind, sparse ones are emptied by moving what is "
                + "still meant, records expire or are evicted, and after a crash the index is found again from what "
                + "the device holds.");
        BlockVault x = new BlockVault();
        s.ok(x.put(1, 11, 6, 0, ALWAYS), x.put(2, 12, 6, 9, ALWAYS), x.put(3, 13, 6, 5, ALWAYS));
        s.states("a block is full", x, SEALED, CURRENT);
        s.ok(x.flush(1), x.evict(1), x.tick(9));
        s.due("evicted", x.entry(3, 0), 2);
        s.due("expired", x.get(2), NOTHING);
        s.due("sweep", x.sweep(), 1);
        s.due("compact", x.compact(7), 1);
        s.ok(x.seal(), x.flush(1), x.seal(), x.flush(1), x.crash(-1));
        s.due("start", x.start(), 1);
        s.due("found again", x.get(1), 11);
    }

    private void roundAndRound() {
        s.begin("What it is", LAST_CALL);
        BlockVault x = new BlockVault();
        s.ok(x.put(15, 0, 6, 1000, ALWAYS), x.seal());
        for (int round = 1; round <= 127; round++) {
            s.due("put, round " + round, x.put(15, round, 6, 1000, ALWAYS), round + 1);
            s.due("block, round " + round, x.entry(15, 5), round % 3);
            s.ok(x.seal());
            s.due("flush of the older of two, round " + round, x.flush(1), 1);
        }
        s.due("call 511", x.count(4), 129);
        s.due("call 512", x.get(15), 127);
    }

    private void farAheadInTime() {
        s.begin("What it is", LAST_CALL);
        BlockVault x = new BlockVault();
        for (int n = 1; n <= 509; n++) {
            s.due("tick " + n, x.tick(1000), 1000 * n);
        }
        s.due("call 510", x.put(0, 1, 1, 1000, ALWAYS), 1);
        s.due("call 511", x.entry(0, 2), 510000);
        s.due("call 512", x.get(0), 1);
    }

    private void keys() {
        s.terms("KEYS are 0..15.");
        BlockVault x = new BlockVault();
        for (int key = 0; key < 16; key++) {
            s.due("put " + key, x.put(key, 100 + key, 1, 0, IF_NOT_THERE), 1);
            s.due("get " + key, x.get(key), 100 + key);
            s.due("entry " + key, x.entry(key, 3), key + 1);
        }
        s.due("ENTRIES", x.count(1), 16);
        for (int key : new int[] {0, 15}) {
            s.due("touch " + key, x.touch(key, 0), 2);
            s.due("remove " + key, x.remove(key, true), 1);
        }
        for (int key : new int[] {-1, 16, LEAST, MOST}) {
            s.due("put " + key, x.put(key, 1, 1, 0, ALWAYS), REFUSED);
            s.due("get " + key, x.get(key), NOTHING);
            s.due("touch " + key, x.touch(key, 0), REFUSED);
            s.due("remove " + key, x.remove(key, true), REFUSED);
            s.due("remove " + key, x.remove(key, false), REFUSED);
            s.due("entry " + key, x.entry(key, 0), REFUSED);
        }
        s.due("ENTRIES", x.count(1), 16);
    }

    private void records() {
        s.terms("A COPY is a RECORD (KEY, value, SIZE 1..6, GENERATION, VOID time, STAMP)");
        BlockVault x = new BlockVault();
        int[] values = {0, -1, 1, LEAST, MOST, -4};
        for (int size = 1; size <= 6; size++) {
            int key = 16 - size;
            s.due("put of SIZE " + size, x.put(key, values[size - 1], size, size, ALWAYS), 1);
            s.entry("SIZE " + size, x, key, 1, 1, size, size, size);
            s.due("value " + values[size - 1], x.get(key), values[size - 1]);
        }
        s.due("SIZE 0", x.put(0, 1, 0, 0, ALWAYS), REFUSED);
        s.due("SIZE 7", x.put(0, 1, 7, 0, ALWAYS), REFUSED);
    }

    private void tombstones() {
        s.terms("or a TOMBSTONE (KEY, STAMP; SIZE 1, GENERATION and VOID time 0).");
        BlockVault x = new BlockVault();
        s.ok(x.put(7, 1, 6, 9, ALWAYS), x.put(7, 2, 5, 9, ALWAYS), x.put(8, 3, 6, 9, ALWAYS));
        s.due("remove", x.remove(7, true), 1);
        s.entry("of remove", x, 7, 2, 0, 0, 4, 1, 1, 1);
        s.due("evict", x.evict(1), 1);
        s.entry("of evict", x, 8, 2, 0, 0, 5, 1, 1, 2);
        s.due("USED", x.block(1, 1), 2);
        s.ok(x.tick(1000));
        s.due("one has no VOID time to reach", x.sweep(), 0);
    }

    private void oneEntry() {
        s.terms("The INDEX has at most one ENTRY for a KEY, which names one COPY; that COPY is LIVE.");
        BlockVault x = new BlockVault();
        for (int n = 1; n <= 12; n++) {
            s.due("put " + n, x.put(4, n, 1, 0, ALWAYS), n);
            s.due("ENTRIES", x.count(1), 1);
            s.due("its place", x.entry(4, 6), n - 1);
            s.due("USED", x.block(0, 1), 1);
        }
        s.due("rank", x.rank(16), 1);
        s.due("next", x.next(4), NONE);
        s.due("remove", x.remove(4, false), 1);
        s.due("USED", x.block(0, 1), 0);
        s.due("none", x.count(1), 0);
    }

    private void expired() {
        s.terms("A KEY is THERE if its ENTRY names a RECORD that is not EXPIRED: one with a VOID time that is not 0 "
                + "and not above the CLOCK is EXPIRED.");
        BlockVault x = new BlockVault();
        s.ok(x.put(0, 10, 1, 0, ALWAYS), x.put(1, 11, 1, 1, ALWAYS), x.put(2, 12, 1, 1000, ALWAYS));
        s.due("VOID time 0 at CLOCK 0", x.get(0), 10);
        s.due("VOID time 1 at CLOCK 0", x.get(1), 11);
        s.ok(x.tick(1));
        s.due("VOID time 1 at CLOCK 1", x.get(1), NOTHING);
        s.ok(x.tick(998));
        s.due("VOID time 1000 at CLOCK 999", x.get(2), 12);
        s.due("THERE", x.count(0), 2);
        s.ok(x.tick(1));
        s.due("VOID time 1000 at CLOCK 1000", x.get(2), NOTHING);
        s.due("THERE", x.count(0), 1);
        s.due("ENTRIES", x.count(1), 3);
        s.ok(x.tick(1));
        s.due("VOID time 1000 at CLOCK 1001", x.get(2), NOTHING);
        s.due("VOID time 0 at CLOCK 1001", x.get(0), 10);
        s.ok(x.remove(0, true));
        s.due("a TOMBSTONE is no RECORD", x.get(0), NOTHING);
        s.due("THERE", x.count(0), 0);
    }

    private void atFirst() {
        s.terms("The CLOCK is 0 at first; the next STAMP is 1 at first.");
        BlockVault x = new BlockVault();
        s.due("CLOCK", x.count(3), 0);
        s.due("next STAMP", x.count(4), 1);
        s.due("tick", x.tick(0), 0);
        s.ok(x.put(0, 1, 1, 1, ALWAYS));
        s.due("VOID time", x.entry(0, 2), 1);
        s.due("STAMP", x.entry(0, 3), 1);
    }

    private void blocks() {
        s.terms("BLOCKS 0..7 have a STATE, at first FREE:");
        BlockVault x = new BlockVault();
        for (int b = 0; b < 8; b++) {
            s.due("block " + b, x.block(b, 0), FREE);
            s.due("image of " + b, x.image(b, 0), NONE);
        }
        for (int b : new int[] {-1, 8, LEAST, MOST}) {
            s.due("block " + b, x.block(b, 0), REFUSED);
            s.due("image of " + b, x.image(b, 0), REFUSED);
        }
        BlockVault y = Scenes.full(0);
        for (int b = 0; b < 8; b++) {
            s.due("each can be filled", y.block(b, 0), WRITTEN);
            s.due("by its own COPIES", y.image(b, 0), 2 * b + 1);
        }
    }

    private void statesOfBlocks() {
        s.terms("0 FREE, 1 CURRENT (at most one), 2 SEALED, 3 WRITTEN, 4 EMPTIED;");
        BlockVault x = Scenes.written(6, 0, 0, 1);
        Scenes.write(x, 6, 0, 2, 3);
        s.states("two WRITTEN", x, 3, 3, 0, 0, 0, 0, 0, 0);
        s.ok(x.put(4, 1, 6, 0, ALWAYS), x.put(5, 1, 6, 0, ALWAYS));
        s.states("one CURRENT", x, 3, 3, 1, 0, 0, 0, 0, 0);
        s.ok(x.put(6, 1, 6, 0, ALWAYS));
        s.states("another one is CURRENT", x, 3, 3, 2, 1, 0, 0, 0, 0);
        s.ok(x.remove(0, false), x.remove(1, false));
        s.states("one EMPTIED", x, 4, 3, 2, 1, 0, 0, 0, 0);
    }

    private void contents() {
        s.terms("a CONTENT, a row of COPIES with SIZES of at most 12 together (none if FREE or EMPTIED),");
        BlockVault x = new BlockVault();
        for (int key = 0; key < 12; key++) {
            s.ok(x.put(key, 1, 1, 0, ALWAYS));
        }
        s.due("twelve COPIES", x.block(0, 2), 12);
        s.due("the twelfth", x.entry(11, 6), 11);
        s.ok(x.put(12, 1, 1, 0, ALWAYS));
        s.due("no thirteenth", x.block(0, 2), 12);
        s.due("it is in the next block", x.entry(12, 5), 1);
        BlockVault y = Scenes.written(6, 0, 0, 1);
        s.ok(y.put(2, 1, 1, 0, ALWAYS), y.remove(0, false), y.remove(1, false));
        s.block("EMPTIED", y, 0, EMPTIED, 0, 0, 2);
        s.ok(y.seal(), y.flush(1));
        s.block("FREE", y, 0, FREE, 0, 0, 2);
    }

    private void images() {
        s.terms("and an IMAGE, the row of COPIES that the device holds (none at first).");
        BlockVault x = new BlockVault();
        for (int b = 0; b < 8; b++) {
            s.due("at first", x.block(b, 3), 0);
            s.due("at first", x.image(b, 0), NONE);
        }
        for (int key = 0; key < 12; key++) {
            s.ok(x.put(key, 1, 1, 0, ALWAYS));
        }
        s.due("CURRENT", x.block(0, 3), 0);
        s.ok(x.seal());
        s.due("SEALED", x.block(0, 3), 0);
        s.ok(x.flush(1));
        s.due("WRITTEN, with twelve COPIES", x.block(0, 3), 12);
        s.due("the first", x.image(0, 0), 1);
        s.due("the twelfth", x.image(0, 11), 12);
        s.due("no thirteenth", x.image(0, 12), NONE);
    }

    private void used() {
        s.terms("USED is the sum of the SIZES of the LIVE COPIES in the CONTENT.");
        BlockVault x = new BlockVault();
        s.ok(x.put(0, 1, 4, 5, ALWAYS), x.put(1, 1, 3, 0, ALWAYS), x.put(0, 1, 2, 5, ALWAYS));
        s.block("one is LIVE no more", x, 0, CURRENT, 5, 9);
        s.ok(x.remove(1, true));
        s.block("a TOMBSTONE is LIVE", x, 0, CURRENT, 3, 10);
        s.ok(x.tick(5));
        s.block("an EXPIRED one is LIVE", x, 0, CURRENT, 3, 10);
        s.ok(x.sweep());
        s.block("swept, it is LIVE no more", x, 0, CURRENT, 1, 10);
        s.due("of no CONTENT", x.block(1, 1), 0);
    }

    private void appendWithoutCurrent() {
        s.terms("TO APPEND a COPY: if there is no CURRENT block,");
        BlockVault x = new BlockVault();
        s.due("put on a new object", x.put(0, 1, 1, 0, ALWAYS), 1);
        s.states("the first COPY", x, CURRENT, FREE);
        s.ok(x.seal());
        s.due("put though the SEALED one has room", x.put(1, 1, 1, 0, ALWAYS), 1);
        s.states("the second COPY", x, SEALED, CURRENT, FREE);
        s.due("its place", x.entry(1, 6), 0);
        s.ok(x.seal(), x.flush(2));
        s.due("put though the WRITTEN ones have room", x.put(2, 1, 1, 0, ALWAYS), 1);
        s.states("the third COPY", x, WRITTEN, WRITTEN, CURRENT, FREE);
    }

    private void appendBeyondTwelve() {
        s.terms("or its CONTENT and the COPY have more than 12 together:");
        BlockVault x = new BlockVault();
        s.ok(x.put(0, 1, 6, 0, ALWAYS), x.put(1, 1, 6, 0, ALWAYS));
        s.states("12 by two", x, CURRENT, FREE);
        s.ok(x.put(2, 1, 1, 0, ALWAYS));
        s.states("13", x, SEALED, CURRENT, FREE);
        s.ok(x.put(3, 1, 5, 0, ALWAYS), x.put(4, 1, 5, 0, ALWAYS), x.remove(2, true));
        s.states("12 by four", x, SEALED, CURRENT, FREE);
        s.ok(x.remove(3, true));
        s.states("13 by a TOMBSTONE", x, SEALED, SEALED, CURRENT);
        s.ok(x.put(5, 1, 6, 0, ALWAYS), x.put(6, 1, 6, 0, ALWAYS));
        s.states("13 by SIZE 6", x, SEALED, SEALED, SEALED, CURRENT);
        BlockVault y = new BlockVault();
        s.ok(y.put(0, 1, 6, 0, ALWAYS), y.put(0, 1, 6, 0, ALWAYS), y.put(0, 1, 1, 0, ALWAYS));
        s.states("COPIES that are LIVE no more count", y, SEALED, CURRENT);
    }

    private void appendBusy() {
        s.terms("BUSY if there is a CURRENT one and three are SEALED;");
        s.due("three SEALED, the CURRENT one full", Scenes.busy(0).put(8, 1, 1, 0, ALWAYS), BUSY);
        BlockVault x = new BlockVault();
        for (int key = 0; key < 6; key++) {
            s.ok(x.put(key, 1, 6, 0, ALWAYS));
        }
        s.states("two SEALED", x, SEALED, SEALED, CURRENT, FREE);
        s.due("two SEALED, the CURRENT one full", x.put(6, 1, 6, 0, ALWAYS), 1);
        s.due("three SEALED, the CURRENT one has room", x.put(7, 1, 5, 0, ALWAYS), 1);
        s.due("no room for this SIZE", x.put(8, 1, 2, 0, ALWAYS), BUSY);
        s.due("but for this", x.put(8, 1, 1, 0, ALWAYS), 1);
        s.due("and none now", x.put(9, 1, 1, 0, ALWAYS), BUSY);
        BlockVault y = Scenes.busy(0);
        s.ok(y.flush(1));
        s.due("two SEALED again", y.put(8, 1, 1, 0, ALWAYS), 1);
        BlockVault z = new BlockVault();
        for (int key = 0; key < 3; key++) {
            s.ok(z.put(key, 1, 6, 0, ALWAYS), z.seal());
        }
        s.due("three SEALED, none CURRENT", z.put(3, 1, 6, 0, ALWAYS), 1);
        s.states("three SEALED", z, SEALED, SEALED, SEALED, CURRENT, FREE);
    }

    private void appendFull() {
        s.terms("else FULL if no block is FREE;");
        s.due("none CURRENT", Scenes.full(0).put(0, 1, 1, 0, ALWAYS), FULL);
        s.due("the CURRENT one full", Scenes.fullWithCurrent(0).put(0, 1, 1, 0, ALWAYS), FULL);
        BlockVault x = Scenes.full(0);
        s.ok(x.remove(6, false), x.remove(7, false));
        s.due("one is FREE again", x.put(0, 1, 1, 0, ALWAYS), 2);
        s.due("it is the one", x.entry(0, 5), 3);
        BlockVault y = Scenes.fullWithCurrent(0);
        s.ok(y.remove(0, false), y.remove(1, false));
        s.due("EMPTIED", y.block(0, 0), EMPTIED);
        s.due("an EMPTIED one is not FREE", y.put(2, 1, 1, 0, ALWAYS), FULL);
        s.ok(y.seal(), y.flush(1));
        s.due("when it is FREE", y.put(2, 1, 1, 0, ALWAYS), 2);
        BlockVault z = new BlockVault();
        for (int b = 0; b < 7; b++) {
            Scenes.write(z, 6, 0, 2 * b, 2 * b + 1);
        }
        s.ok(z.put(14, 1, 6, 0, ALWAYS));
        s.due("none FREE, the CURRENT one has room", z.put(15, 1, 6, 0, ALWAYS), 1);
        s.due("none FREE, the CURRENT one has none", z.put(15, 1, 1, 0, ALWAYS), FULL);
    }

    private void appendRefused() {
        s.terms("nothing changes then;");
        s.changesNothing("BUSY", () -> Scenes.busy(3), x -> x.put(0, 1, 6, 0, ALWAYS), BUSY);
        s.changesNothing("BUSY for a new KEY", () -> Scenes.busy(3), x -> x.put(9, 1, 1, 0, ALWAYS), BUSY);
        s.changesNothing("FULL", () -> Scenes.full(3), x -> x.put(0, 1, 6, 0, ALWAYS), FULL);
        s.changesNothing("FULL: the CURRENT one is not SEALED", () -> Scenes.fullWithCurrent(3),
                x -> x.put(0, 1, 6, 0, ALWAYS), FULL);
    }

    private void appendSeals() {
        s.terms("else the CURRENT one is SEALED, and the FREE one with the least number, without CONTENT, is CURRENT.");
        BlockVault x = Scenes.written(6, 0, 0, 1);
        Scenes.write(x, 6, 0, 2, 3);
        Scenes.write(x, 6, 0, 4, 5);
        s.ok(x.remove(2, false), x.remove(3, false));
        s.states("FREE among WRITTEN ones", x, WRITTEN, FREE, WRITTEN, FREE);
        s.ok(x.put(6, 1, 6, 0, ALWAYS));
        s.states("the least number", x, WRITTEN, CURRENT, WRITTEN, FREE);
        s.block("without the CONTENT that it had", x, 1, CURRENT, 6, 6, 2);
        s.due("first place", x.entry(6, 6), 0);
        s.ok(x.put(7, 1, 6, 0, ALWAYS), x.put(8, 1, 1, 0, ALWAYS));
        s.states("the CURRENT one is SEALED", x, WRITTEN, SEALED, WRITTEN, CURRENT, FREE);
        s.due("its CONTENT stays", x.block(1, 2), 12);
        s.due("its IMAGE stays", x.image(1, 0), 3);
        BlockVault y = Scenes.written(6, 0, 0, 1);
        s.ok(y.put(2, 1, 6, 0, ALWAYS), y.remove(0, false), y.remove(1, false), y.seal());
        s.ok(y.put(3, 1, 6, 0, ALWAYS), y.put(4, 1, 6, 0, ALWAYS), y.flush(1));
        s.states("FREE on both sides", y, FREE, WRITTEN, CURRENT, FREE);
        s.ok(y.put(5, 1, 1, 0, ALWAYS));
        s.states("the least number, not the next one", y, CURRENT, WRITTEN, SEALED, FREE);
    }

    private void appendComesLast() {
        s.terms("The COPY comes last in the CONTENT of the CURRENT one;");
        BlockVault x = new BlockVault();
        s.ok(x.put(9, 1, 2, 0, ALWAYS), x.put(3, 1, 2, 0, ALWAYS), x.put(9, 1, 2, 0, ALWAYS), x.remove(3, true));
        s.due("place of 9", x.entry(9, 6), 2);
        s.due("place of 3", x.entry(3, 6), 3);
        s.ok(x.seal(), x.flush(1));
        for (int k = 0; k < 4; k++) {
            s.due("COPY " + k, x.image(0, k), k + 1);
        }
    }

    private void appendNames() {
        s.terms("the ENTRY of its KEY (a new one if there is none) names it,");
        BlockVault x = new BlockVault();
        s.due("none", x.entry(5, 0), NONE);
        s.ok(x.put(5, 1, 2, 7, ALWAYS));
        s.entry("a new one", x, 5, 1, 1, 7, 1, 2, 0, 0);
        s.ok(x.put(5, 1, 3, 8, ALWAYS));
        s.entry("the same ENTRY", x, 5, 1, 2, 8, 2, 3, 0, 1);
        s.due("ENTRIES", x.count(1), 1);
        s.ok(x.seal(), x.put(5, 1, 4, 9, ALWAYS));
        s.entry("in another block", x, 5, 1, 3, 9, 3, 4, 1, 0);
    }

    private void appendTakesLife() {
        s.terms("the COPY that it named before is LIVE no more.");
        BlockVault x = new BlockVault();
        s.ok(x.put(5, 1, 6, 0, ALWAYS), x.put(6, 1, 2, 0, ALWAYS), x.seal());
        s.due("USED", x.block(0, 1), 8);
        s.ok(x.put(5, 1, 1, 0, ALWAYS));
        s.due("USED", x.block(0, 1), 2);
        s.due("USED of the other", x.block(1, 1), 1);
        s.due("SIZES", x.block(0, 2), 8);
    }

    /** Block 0 WRITTEN, with KEY 0 alone, VOID at 5; block 1 CURRENT, with KEY 9. */
    private static BlockVault oneLive() {
        BlockVault x = Scenes.written(3, 5, 0);
        x.put(9, 1, 1, 0, ALWAYS);
        return x;
    }

    private void emptied() {
        s.terms("As soon as a WRITTEN block has no LIVE COPY it is EMPTIED, without CONTENT (its IMAGE stays),");
        String[] ways = {"put", "touch", "remove, lasting", "remove", "evict", "sweep", "compact"};
        for (int way = 0; way < ways.length; way++) {
            BlockVault x = oneLive();
            s.block("before " + ways[way], x, 0, WRITTEN, 3, 3, 1, 0);
            switch (way) {
                case 0: s.ok(x.put(0, 1, 1, 0, ALWAYS)); break;
                case 1: s.ok(x.touch(0, 0)); break;
                case 2: s.ok(x.remove(0, true)); break;
                case 3: s.ok(x.remove(0, false)); break;
                case 4: s.ok(x.evict(1)); break;
                case 5: s.ok(x.tick(5), x.sweep()); break;
                default: s.ok(x.compact(4)); break;
            }
            s.block("after " + ways[way], x, 0, EMPTIED, 0, 0, 1, 1);
            s.due("its IMAGE after " + ways[way], x.image(0, 0), 1);
        }
        BlockVault y = new BlockVault();
        s.ok(y.put(0, 1, 3, 0, ALWAYS), y.seal(), y.put(0, 1, 3, 0, ALWAYS));
        s.block("SEALED without a LIVE COPY", y, 0, SEALED, 0, 3, 0, 0);
        s.ok(y.flush(1));
        s.block("after flush", y, 0, EMPTIED, 0, 0, 1, 1);
    }

    private void notEmptied() {
        s.terms("As soon as a WRITTEN block has no LIVE COPY");
        BlockVault x = Scenes.written(3, 5, 0, 1);
        s.ok(x.put(9, 1, 1, 0, ALWAYS), x.remove(0, false));
        s.block("one is LIVE still", x, 0, WRITTEN, 3, 6, 2, 0);
        s.ok(x.tick(5));
        s.block("an EXPIRED one is LIVE still", x, 0, WRITTEN, 3, 6, 2, 0);
        BlockVault y = new BlockVault();
        s.ok(y.put(0, 1, 3, 0, ALWAYS), y.remove(0, false));
        s.block("a CURRENT one is not WRITTEN", y, 0, CURRENT, 0, 3, 0, 0);
        BlockVault z = Scenes.written(3, 0, 0);
        s.ok(z.remove(0, true), z.seal(), z.flush(1));
        s.block("a TOMBSTONE is LIVE", z, 1, WRITTEN, 1, 1, 1, 0);
    }

    private void waits() {
        s.terms("and WAITS for the blocks that are CURRENT or SEALED then;");
        BlockVault x = Scenes.written(6, 0, 14, 15);
        Scenes.write(x, 6, 0, 12, 13);
        for (int key = 0; key < 8; key++) {
            s.ok(x.put(key, 1, 6, 0, ALWAYS));
        }
        s.states("three SEALED, one CURRENT", x, WRITTEN, WRITTEN, SEALED, SEALED, SEALED, CURRENT, FREE, FREE);
        s.ok(x.remove(14, false), x.remove(15, false));
        s.due("WAITS for four", x.block(0, 4), 4);
        s.ok(x.remove(12, false), x.remove(13, false));
        s.due("not for an EMPTIED one", x.block(1, 4), 4);
        s.ok(x.flush(1), x.put(8, 1, 6, 0, ALWAYS));
        s.states("a later one is CURRENT", x, EMPTIED, EMPTIED, WRITTEN, SEALED, SEALED, SEALED, CURRENT, FREE);
        s.due("not for a later one", x.block(0, 4), 3);
        s.ok(x.remove(0, false), x.remove(1, false));
        s.due("but this one does", x.block(2, 4), 4);
        BlockVault v = Scenes.full(0);
        s.ok(v.remove(0, false), v.remove(1, false), v.put(0, 1, 6, 0, ALWAYS), v.remove(14, false));
        s.states("the first block is CURRENT", v, CURRENT, WRITTEN);
        s.ok(v.remove(15, false));
        s.due("for the first block", v.block(7, 4), 1);
        BlockVault y = oneLive();
        s.ok(y.put(0, 1, 6, 0, ALWAYS));
        s.due("for a CURRENT one alone", y.block(0, 4), 1);
        BlockVault z = oneLive();
        s.ok(z.seal(), z.remove(0, false));
        s.due("for a SEALED one alone", z.block(0, 4), 1);
        BlockVault w = Scenes.written(3, 0, 0);
        s.ok(w.put(0, 1, 1, 0, ALWAYS));
        s.due("for the one that is CURRENT by the same call", w.block(0, 4), 1);
    }

    private void waitIsOver() {
        s.terms("as soon as none of those is CURRENT or SEALED any more (WRITTEN or more since) it is FREE:");
        BlockVault x = Scenes.written(6, 0, 0, 1);
        s.ok(x.put(2, 1, 6, 0, ALWAYS), x.seal(), x.put(3, 1, 6, 0, ALWAYS));
        s.ok(x.remove(0, false), x.remove(1, false));
        s.states("WAITS for two", x, EMPTIED, SEALED, CURRENT);
        s.ok(x.seal(), x.put(4, 1, 1, 0, ALWAYS));
        s.states("SEALED is not enough", x, EMPTIED, SEALED, SEALED, CURRENT);
        s.ok(x.flush(1));
        s.states("one of two is not enough", x, EMPTIED, WRITTEN, SEALED, CURRENT);
        s.ok(x.flush(1));
        s.states("both, and the later one is no matter", x, FREE, WRITTEN, WRITTEN, CURRENT);
        BlockVault y = Scenes.written(6, 0, 0, 1);
        s.ok(y.put(2, 1, 6, 0, ALWAYS), y.remove(0, false), y.remove(1, false));
        s.ok(y.seal(), y.put(2, 1, 6, 0, ALWAYS));
        s.states("SEALED without a LIVE COPY", y, EMPTIED, SEALED, CURRENT);
        s.ok(y.flush(1));
        s.states("WRITTEN and EMPTIED since", y, FREE, EMPTIED, CURRENT);
        s.ok(y.seal(), y.flush(1));
        s.states("the other one, too", y, FREE, FREE, WRITTEN);
    }

    private void freeAtOnce() {
        s.terms("at once if there was none.");
        BlockVault x = Scenes.written(6, 0, 0, 1);
        s.ok(x.remove(0, false), x.remove(1, false));
        s.block("by remove", x, 0, FREE, 0, 0, 2, 0);
        BlockVault y = Scenes.written(6, 3, 0, 1);
        s.ok(y.tick(3), y.sweep());
        s.block("by sweep", y, 0, FREE, 0, 0, 2, 0);
        BlockVault z = new BlockVault();
        s.ok(z.put(0, 1, 6, 0, ALWAYS), z.remove(0, false), z.seal(), z.flush(1));
        s.block("by flush", z, 0, FREE, 0, 0, 1, 0);
    }

    private void stamps() {
        s.terms("A COPY is WRITTEN by put, touch, remove and evict with the next STAMP, which is 1 more then;");
        BlockVault x = new BlockVault();
        s.ok(x.put(0, 1, 1, 7, ALWAYS));
        s.due("put", x.entry(0, 3), 1);
        s.due("the next", x.count(4), 2);
        s.ok(x.touch(0, 8));
        s.due("touch", x.entry(0, 3), 2);
        s.ok(x.put(1, 1, 1, 9, ALWAYS), x.put(2, 1, 1, 9, ALWAYS), x.remove(0, true));
        s.due("remove", x.entry(0, 3), 5);
        s.ok(x.evict(2));
        s.due("evict", x.entry(1, 3), 6);
        s.due("evict, the second", x.entry(2, 3), 7);
        s.due("the next", x.count(4), 8);
        s.ok(x.put(3, 1, 1, 0, ALWAYS), x.remove(3, false));
        s.due("remove that does not last writes none", x.count(4), 9);
        s.ok(x.tick(1), x.sweep(), x.seal(), x.flush(1), x.compact(12));
        s.due("nor do tick, sweep, seal, flush and compact", x.count(4), 9);
        s.due("put that is refused", x.put(3, 1, 1, 0, IF_THERE), CONFLICT);
        s.due("writes none", x.count(4), 9);
    }

    private void moving() {
        s.terms("moving keeps all of it.");
        BlockVault x = Scenes.written(5, 9, 4, 6);
        s.ok(x.put(4, 77, 2, 8, ALWAYS), x.remove(6, true), x.seal(), x.flush(1));
        s.entry("before", x, 4, 1, 2, 8, 3, 2, 1, 0);
        s.ok(x.compact(4));
        s.entry("a RECORD", x, 4, 1, 2, 8, 3, 2, 0, 0);
        s.due("its value", x.get(4), 77);
        s.entry("a TOMBSTONE", x, 6, 2, 0, 0, 4, 1, 0, 1);
        s.due("next STAMP", x.count(4), 5);
        s.ok(x.tick(8));
        s.due("its VOID time counts", x.get(4), NOTHING);
    }

    private void downUntilStart() {
        s.terms("After a crash the store is DOWN until it starts.");
        BlockVault x = Scenes.down();
        s.due("count", x.count(7), 1);
        s.due("put", x.put(0, 1, 1, 0, ALWAYS), DOWN);
        s.due("tick", x.tick(1000), 1000);
        s.due("DOWN still", x.seal(), DOWN);
        s.due("start", x.start(), 2);
        s.due("count", x.count(7), 0);
        s.due("put", x.put(0, 1, 1, 0, ALWAYS), 2);
        s.due("crash", x.crash(-1), 1);
        s.due("DOWN again", x.seal(), DOWN);
    }

    private void refusedFirst() {
        s.terms("In each call numbers out of range (REFUSED) are tested first,");
        BlockVault x = Scenes.down();
        s.due("put, key", x.put(16, 1, 1, 0, ALWAYS), REFUSED);
        s.due("put, size", x.put(0, 1, 0, 0, ALWAYS), REFUSED);
        s.due("put, life", x.put(0, 1, 1, 1001, ALWAYS), REFUSED);
        s.due("put, rule", x.put(0, 1, 1, 0, -4), REFUSED);
        s.due("touch, key", x.touch(-1, 0), REFUSED);
        s.due("touch, life", x.touch(0, -1), REFUSED);
        s.due("remove", x.remove(16, true), REFUSED);
        s.due("remove", x.remove(-1, false), REFUSED);
        s.due("evict", x.evict(0), REFUSED);
        s.due("tick", x.tick(1001), REFUSED);
        s.due("flush", x.flush(4), REFUSED);
        s.due("compact", x.compact(13), REFUSED);
        s.due("crash", x.crash(0), REFUSED);
        s.due("entry, key", x.entry(16, 0), REFUSED);
        s.due("entry, what", x.entry(0, 7), REFUSED);
        s.due("block, b", x.block(8, 0), REFUSED);
        s.due("block, what", x.block(0, 5), REFUSED);
        s.due("image", x.image(8, 0), REFUSED);
        s.due("count", x.count(8), REFUSED);
    }

    private void refusedBeforeTheRest() {
        s.terms("numbers out of range (REFUSED) are tested first,");
        for (BlockVault x : new BlockVault[] {Scenes.busy(0), Scenes.full(0), Scenes.fullWithCurrent(0)}) {
            s.due("put, before BUSY and FULL", x.put(0, 1, 7, 0, ALWAYS), REFUSED);
            s.due("put, before CONFLICT", x.put(0, 1, 1, -1, IF_NOT_THERE), REFUSED);
            s.due("touch, before BUSY and FULL", x.touch(0, 1001), REFUSED);
            s.due("remove, before BUSY and FULL", x.remove(16, true), REFUSED);
            s.due("compact, before NONE", x.compact(0), REFUSED);
        }
        BlockVault y = new BlockVault();
        s.due("touch, before NONE", y.touch(0, 1001), REFUSED);
        s.due("entry, before NONE", y.entry(0, -1), REFUSED);
        s.due("image, before NONE", y.image(-1, 0), REFUSED);
        s.due("evict, before none is THERE", y.evict(17), REFUSED);
        s.due("flush, before none is SEALED", y.flush(0), REFUSED);
    }

    private void thenDown() {
        s.terms("then DOWN,");
        BlockVault x = Scenes.down();
        s.due("put", x.put(0, 1, 1, 0, ALWAYS), DOWN);
        s.due("put, before CONFLICT", x.put(0, 1, 1, 0, IF_THERE), DOWN);
        s.due("put, before CONFLICT", x.put(0, 1, 1, 0, 0), DOWN);
        s.due("touch, before NONE", x.touch(9, 0), DOWN);
        s.due("remove, before NONE", x.remove(9, true), DOWN);
        s.due("remove, before NONE", x.remove(9, false), DOWN);
        s.due("evict, not 0", x.evict(1), DOWN);
        s.due("sweep, not 0", x.sweep(), DOWN);
        s.due("seal, not 0", x.seal(), DOWN);
        s.due("flush, not 0", x.flush(1), DOWN);
        s.due("compact, before NONE", x.compact(12), DOWN);
        s.due("crash", x.crash(-1), DOWN);
        s.due("entry, before NONE", x.entry(9, 0), DOWN);
        s.due("next, before NONE", x.next(15), DOWN);
        s.due("rank, not 0", x.rank(0), DOWN);
    }

    private void thenWhatIsNamed() {
        s.terms("then what else is named, in that order,");
        for (BlockVault x : new BlockVault[] {Scenes.busy(0), Scenes.full(0), Scenes.fullWithCurrent(0)}) {
            s.due("CONFLICT of -2", x.put(0, 1, 1, 0, IF_NOT_THERE), CONFLICT);
            s.due("CONFLICT of a GENERATION", x.put(0, 1, 1, 0, 2), CONFLICT);
            s.ok(x.remove(5, false));
            s.due("CONFLICT of -3", x.put(5, 1, 1, 0, IF_THERE), CONFLICT);
            s.due("touch, NONE", x.touch(5, 0), NONE);
            s.due("remove, NONE", x.remove(5, true), NONE);
        }
    }

    private void thenBusyAndFull() {
        s.terms("then BUSY and FULL of APPENDING.");
        s.due("put, BUSY", Scenes.busy(0).put(0, 1, 1, 0, IF_THERE), BUSY);
        s.due("touch, BUSY", Scenes.busy(0).touch(0, 1), BUSY);
        s.due("remove, BUSY", Scenes.busy(0).remove(0, true), BUSY);
        s.due("put, FULL", Scenes.full(0).put(0, 1, 1, 0, 1), FULL);
        s.due("touch, FULL", Scenes.full(0).touch(0, 1), FULL);
        s.due("remove, FULL", Scenes.full(0).remove(0, true), FULL);
        BlockVault x = new BlockVault();
        for (int b = 0; b < 4; b++) {
            Scenes.write(x, 6, 0, 2 * b, 2 * b + 1);
        }
        for (int key = 8; key < 16; key++) {
            s.ok(x.put(key, 1, 6, 0, ALWAYS));
        }
        s.states("none FREE, three SEALED", x, WRITTEN, WRITTEN, WRITTEN, WRITTEN, SEALED, SEALED, SEALED, CURRENT);
        s.due("BUSY before FULL", x.put(0, 1, 1, 0, ALWAYS), BUSY);
        BlockVault y = new BlockVault();
        for (int b = 0; b < 5; b++) {
            Scenes.write(y, 6, 0, 2 * b, 2 * b + 1);
        }
        for (int key = 10; key < 13; key++) {
            s.ok(y.put(key, 1, 6, 0, ALWAYS), y.seal());
        }
        s.states("and none CURRENT", y, WRITTEN, WRITTEN, WRITTEN, WRITTEN, WRITTEN, SEALED, SEALED, SEALED);
        s.due("FULL, not BUSY", y.put(0, 1, 1, 0, ALWAYS), FULL);
    }

    /** All STATES, a TOMBSTONE, an EXPIRED RECORD, a moved COPY. */
    private static BlockVault mixed() {
        BlockVault x = Scenes.written(6, 0, 0, 1);
        Scenes.write(x, 3, 4, 2, 3, 4);
        Scenes.write(x, 6, 0, 5, 6);
        x.tick(4);
        x.put(7, 107, 5, 9, ALWAYS);
        x.remove(5, true);
        x.compact(7);
        x.seal();
        x.put(0, 110, 2, 0, ALWAYS);
        return x;
    }

    private void refusedByANumber() {
        s.terms("A call that is refused (by one of the codes below 0) changes nothing, if nothing else is said.");
        Supplier<BlockVault> scene = TermsBoundaries::mixed;
        s.states("what is there", mixed(), WRITTEN, WRITTEN, EMPTIED, SEALED, CURRENT, FREE, FREE, FREE);
        s.changesNothing("put, key", scene, x -> x.put(16, 1, 1, 0, ALWAYS), REFUSED);
        s.changesNothing("put, size", scene, x -> x.put(0, 1, 7, 0, ALWAYS), REFUSED);
        s.changesNothing("put, life", scene, x -> x.put(0, 1, 1, 1001, ALWAYS), REFUSED);
        s.changesNothing("put, rule", scene, x -> x.put(0, 1, 1, 0, -4), REFUSED);
        s.changesNothing("touch, key", scene, x -> x.touch(-1, 1), REFUSED);
        s.changesNothing("touch, life", scene, x -> x.touch(0, 1001), REFUSED);
        s.changesNothing("remove", scene, x -> x.remove(16, false), REFUSED);
        s.changesNothing("evict 0", scene, x -> x.evict(0), REFUSED);
        s.changesNothing("evict 17", scene, x -> x.evict(17), REFUSED);
        s.changesNothing("tick -1", scene, x -> x.tick(-1), REFUSED);
        s.changesNothing("tick 1001", scene, x -> x.tick(1001), REFUSED);
        s.changesNothing("flush 0", scene, x -> x.flush(0), REFUSED);
        s.changesNothing("flush 4", scene, x -> x.flush(4), REFUSED);
        s.changesNothing("compact 0", scene, x -> x.compact(0), REFUSED);
        s.changesNothing("compact 13", scene, x -> x.compact(13), REFUSED);
        s.changesNothing("crash -2", scene, x -> x.crash(-2), REFUSED);
        s.changesNothing("crash beyond", scene, x -> x.crash(4), REFUSED);
        s.changesNothing("entry", scene, x -> x.entry(0, 7), REFUSED);
        s.changesNothing("block", scene, x -> x.block(8, 0), REFUSED);
        s.changesNothing("image", scene, x -> x.image(8, 0), REFUSED);
        s.changesNothing("count", scene, x -> x.count(8), REFUSED);
    }

    private void refusedByDown() {
        s.terms("A call that is refused (by one of the codes below 0) changes nothing,");
        Supplier<BlockVault> scene = Scenes::down;
        s.changesNothing("put", scene, x -> x.put(0, 1, 1, 0, ALWAYS), DOWN);
        s.changesNothing("touch", scene, x -> x.touch(0, 1), DOWN);
        s.changesNothing("remove", scene, x -> x.remove(0, true), DOWN);
        s.changesNothing("evict", scene, x -> x.evict(16), DOWN);
        s.changesNothing("sweep", scene, x -> x.sweep(), DOWN);
        s.changesNothing("seal", scene, x -> x.seal(), DOWN);
        s.changesNothing("flush", scene, x -> x.flush(3), DOWN);
        s.changesNothing("compact", scene, x -> x.compact(12), DOWN);
        s.changesNothing("crash", scene, x -> x.crash(-1), DOWN);
        s.changesNothing("entry", scene, x -> x.entry(0, 0), DOWN);
        s.changesNothing("next", scene, x -> x.next(-1), DOWN);
        s.changesNothing("rank", scene, x -> x.rank(16), DOWN);
        s.changesNothing("start, not DOWN", TermsBoundaries::mixed, x -> x.start(), DOWN);
        s.changesNothing("start, not DOWN", BlockVault::new, x -> x.start(), DOWN);
    }

    private void refusedByWhatIsNamed() {
        s.terms("(by one of the codes below 0) changes nothing,");
        Supplier<BlockVault> scene = TermsBoundaries::mixed;
        s.changesNothing("put if not THERE", scene, x -> x.put(0, 1, 1, 0, IF_NOT_THERE), CONFLICT);
        s.changesNothing("put if THERE, EXPIRED", scene, x -> x.put(3, 1, 1, 0, IF_THERE), CONFLICT);
        s.changesNothing("put if THERE, TOMBSTONE", scene, x -> x.put(5, 1, 1, 0, IF_THERE), CONFLICT);
        s.changesNothing("put of a GENERATION", scene, x -> x.put(7, 1, 1, 0, 2), CONFLICT);
        s.changesNothing("touch, EXPIRED", scene, x -> x.touch(3, 1), NONE);
        s.changesNothing("touch, TOMBSTONE", scene, x -> x.touch(5, 1), NONE);
        s.changesNothing("touch, no ENTRY", scene, x -> x.touch(9, 1), NONE);
        s.changesNothing("remove, EXPIRED", scene, x -> x.remove(3, false), NONE);
        s.changesNothing("remove, TOMBSTONE", scene, x -> x.remove(5, false), NONE);
        s.changesNothing("remove, no ENTRY", scene, x -> x.remove(9, true), NONE);
        s.changesNothing("compact", scene, x -> x.compact(1), NONE);
        s.changesNothing("entry", scene, x -> x.entry(9, 0), NONE);
        s.changesNothing("next", scene, x -> x.next(15), NONE);
        s.changesNothing("image", scene, x -> x.image(0, 2), NONE);
        s.changesNothing("get, TOMBSTONE", scene, x -> x.get(5), NOTHING);
        s.changesNothing("get, EXPIRED", scene, x -> x.get(3), NOTHING);
    }

    private void refusedByAppending() {
        s.terms("changes nothing, if nothing else is said.");
        Supplier<BlockVault> busy = () -> Scenes.busy(5);
        Supplier<BlockVault> full = () -> Scenes.full(5);
        Supplier<BlockVault> fullWithCurrent = () -> Scenes.fullWithCurrent(5);
        s.changesNothing("touch", busy, x -> x.touch(7, 9), BUSY);
        s.changesNothing("touch", full, x -> x.touch(7, 9), FULL);
        s.changesNothing("touch", fullWithCurrent, x -> x.touch(7, 9), FULL);
        s.changesNothing("remove", busy, x -> x.remove(7, true), BUSY);
        s.changesNothing("remove", full, x -> x.remove(7, true), FULL);
        s.changesNothing("remove", fullWithCurrent, x -> x.remove(7, true), FULL);
        s.changesNothing("seal", busy, x -> x.seal(), BUSY);
    }

    private void constants() {
        s.terms("The constants: `REFUSED = -1, DOWN = -2, CONFLICT = -3, NONE = -4, BUSY = -5, FULL = -6`: Answers: "
                + "a number is out of range; the store is DOWN (or, for start, not); a rule does not hold; a KEY is "
                + "not THERE, or there is no such thing; three blocks are SEALED; no block is FREE.");
        s.due("REFUSED", BlockVault.REFUSED, -1);
        s.due("DOWN", BlockVault.DOWN, -2);
        s.due("CONFLICT", BlockVault.CONFLICT, -3);
        s.due("NONE", BlockVault.NONE, -4);
        s.due("BUSY", BlockVault.BUSY, -5);
        s.due("FULL", BlockVault.FULL, -6);
        BlockVault x = new BlockVault();
        s.due("a number is out of range", x.tick(-1), -1);
        s.due("the store is not DOWN", x.start(), -2);
        s.due("the store is DOWN", Scenes.down().seal(), -2);
        s.due("a rule does not hold", x.put(0, 1, 1, 0, IF_THERE), -3);
        s.due("a KEY is not THERE", x.touch(0, 0), -4);
        s.due("there is no such thing", x.image(0, 0), -4);
        s.due("three blocks are SEALED", Scenes.busy(0).seal(), -5);
        s.due("no block is FREE", Scenes.full(0).touch(0, 0), -6);
    }

    private void nothing() {
        s.terms("`NOTHING = 1L << 40`: What get answers where there is no value.");
        s.due("NOTHING", BlockVault.NOTHING, 1099511627776L);
        s.due("get", new BlockVault().get(0), 1099511627776L);
    }
}

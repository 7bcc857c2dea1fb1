/** For each promise of the document: ordinary calls, the edges that it names, and wrong inputs. */
public final class PromiseTest {
    private static final int REFUSED = -1, DOWN = -2, CONFLICT = -3, NONE = -4, BUSY = -5, FULL = -6;
    private static final long NOTHING = 1099511627776L;
    private static final int ALWAYS = -1;
    private static final int LEAST = Integer.MIN_VALUE, MOST = Integer.MAX_VALUE;

    private static final Checks C = new Checks();

    public static void main(String[] args) {
        constants();
        newObject();
        putGenerations();
        putRules();
        putRefused();
        putFillsBlocks();
        putBusyAndFull();
        get();
        touch();
        remove();
        evict();
        evictStopped();
        tick();
        sweepExpired();
        sweepTombstones();
        sweepLooksAtContents();
        seal();
        flush();
        flushEmptied();
        compactChoice();
        compactMoves();
        compactStopped();
        waits();
        waitsOfSeveral();
        freeAtOnce();
        crashRefused();
        crashTorn();
        crashLoses();
        whileDown();
        start();
        startChoosesNewest();
        startChoosesFirstOfSeveral();
        startStamp();
        entry();
        nextAndRank();
        block();
        image();
        count();
        C.end();
    }

    private static BlockVault vault(String name) {
        C.begin(name);
        return new BlockVault();
    }

    /** Puts and writes behind a block of its own with two RECORDS of SIZE 6. */
    private static void writePair(BlockVault x, int first, int second) {
        C.due("put", x.put(first, 100 + first, 6, 0, -2), 1);
        C.due("put", x.put(second, 100 + second, 6, 0, -2), 1);
        C.due("seal", x.seal(), 1);
        C.due("flush", x.flush(1), 1);
    }

    /** Lets the CURRENT block and three SEALED ones be full: KEYS 0..7, SIZE 6, in blocks 0..3. */
    private static void makeBusy(BlockVault x, int life) {
        for (int key = 0; key < 8; key++) {
            C.due("put", x.put(key, key, 6, life, ALWAYS), 1);
        }
    }

    /** No block is FREE: all eight are WRITTEN, with KEYS 0..15, SIZE 6. */
    private static void makeFull(BlockVault x, int life) {
        for (int key = 0; key < 16; key++) {
            C.due("put", x.put(key, key, 6, life, ALWAYS), 1);
            if (key % 2 == 1) {
                C.due("seal", x.seal(), 1);
                C.due("flush", x.flush(1), 1);
            }
        }
    }

    private static void constants() {
        C.begin("constants");
        C.due("REFUSED", BlockVault.REFUSED, REFUSED);
        C.due("DOWN", BlockVault.DOWN, DOWN);
        C.due("CONFLICT", BlockVault.CONFLICT, CONFLICT);
        C.due("NONE", BlockVault.NONE, NONE);
        C.due("BUSY", BlockVault.BUSY, BUSY);
        C.due("FULL", BlockVault.FULL, FULL);
        C.due("NOTHING", BlockVault.NOTHING, NOTHING);
    }

    private static void newObject() {
        BlockVault x = vault("1 new object");
        int[] counts = {0, 0, 0, 0, 1, 0, 0, 0};
        for (int what = 0; what < 8; what++) {
            C.due("count " + what, x.count(what), counts[what]);
        }
        for (int b = 0; b < 8; b++) {
            for (int what = 0; what < 5; what++) {
                C.due("block " + b + " " + what, x.block(b, what), 0);
            }
            C.due("image " + b, x.image(b, 0), NONE);
        }
        for (int key = 0; key < 16; key++) {
            C.due("get " + key, x.get(key), NOTHING);
            C.due("entry " + key, x.entry(key, 0), NONE);
        }
        C.due("next", x.next(-1), NONE);
        C.due("rank", x.rank(16), 0);
        BlockVault y = new BlockVault();
        C.due("put", y.put(0, 1, 1, 0, ALWAYS), 1);
        C.due("another object's count", x.count(1), 0);
    }

    private static void putGenerations() {
        BlockVault x = vault("2 put: GENERATION, VOID time, STAMP");
        C.due("tick", x.tick(7), 7);
        C.due("put", x.put(0, 11, 1, 0, ALWAYS), 1);
        C.due("VOID time for life 0", x.entry(0, 2), 0);
        C.due("STAMP", x.entry(0, 3), 1);
        C.due("put again", x.put(0, 12, 2, 1000, ALWAYS), 2);
        C.due("VOID time", x.entry(0, 2), 1007);
        C.due("STAMP", x.entry(0, 3), 2);
        C.due("SIZE", x.entry(0, 4), 2);
        C.due("GENERATION", x.entry(0, 1), 2);
        C.due("value", x.get(0), 12);
        C.due("put of the last KEY", x.put(15, -5, 6, 1, ALWAYS), 1);
        C.due("VOID time", x.entry(15, 2), 8);
        C.due("tick", x.tick(1), 8);
        C.due("put where it is EXPIRED", x.put(15, -6, 1, 1, ALWAYS), 1);
        C.due("remove", x.remove(0, true), 1);
        C.due("put over a TOMBSTONE", x.put(0, 13, 1, 0, ALWAYS), 1);
        C.due("kind", x.entry(0, 0), 1);
        C.due("remove", x.remove(0, false), 1);
        C.due("put where no ENTRY is", x.put(0, 14, 1, 0, ALWAYS), 1);
        C.due("next STAMP", x.count(4), 8);
    }

    private static void putRules() {
        BlockVault x = vault("2 put: rules");
        C.due("-3 not THERE", x.put(3, 1, 1, 0, -3), CONFLICT);
        C.due("0 not THERE", x.put(3, 1, 1, 0, 0), CONFLICT);
        C.due("1 not THERE", x.put(3, 1, 1, 0, 1), CONFLICT);
        C.due("no ENTRY by that", x.count(1), 0);
        C.due("-2 not THERE", x.put(3, 1, 1, 5, -2), 1);
        C.due("-2 THERE", x.put(3, 2, 1, 5, -2), CONFLICT);
        C.due("value", x.get(3), 1);
        C.due("-3 THERE", x.put(3, 3, 1, 5, -3), 2);
        C.due("0 THERE", x.put(3, 4, 1, 5, 0), CONFLICT);
        C.due("old GENERATION", x.put(3, 4, 1, 5, 1), CONFLICT);
        C.due("GENERATION to come", x.put(3, 4, 1, 5, 3), CONFLICT);
        C.due("greatest rule", x.put(3, 4, 1, 5, MOST), CONFLICT);
        C.due("this GENERATION", x.put(3, 5, 1, 5, 2), 3);
        C.due("value", x.get(3), 5);
        C.due("next STAMP", x.count(4), 4);
        C.due("tick", x.tick(4), 4);
        C.due("-2 just before VOID time", x.put(3, 6, 1, 5, -2), CONFLICT);
        C.due("tick", x.tick(1), 5);
        C.due("-3 EXPIRED", x.put(3, 6, 1, 5, -3), CONFLICT);
        C.due("GENERATION of an EXPIRED one", x.put(3, 6, 1, 5, 3), CONFLICT);
        C.due("-2 EXPIRED", x.put(3, 6, 1, 5, -2), 1);
        C.due("remove", x.remove(3, true), 1);
        C.due("-3 TOMBSTONE", x.put(3, 6, 1, 5, -3), CONFLICT);
        C.due("0 TOMBSTONE", x.put(3, 6, 1, 5, 0), CONFLICT);
        C.due("-2 TOMBSTONE", x.put(3, 6, 1, 5, -2), 1);
    }

    private static void putRefused() {
        BlockVault x = vault("2 put: REFUSED");
        for (int key : new int[] {-1, 16, LEAST, MOST}) {
            C.due("key " + key, x.put(key, 1, 1, 0, ALWAYS), REFUSED);
        }
        for (int size : new int[] {0, 7, -1, LEAST, MOST}) {
            C.due("size " + size, x.put(0, 1, size, 0, ALWAYS), REFUSED);
        }
        for (int life : new int[] {-1, 1001, LEAST, MOST}) {
            C.due("life " + life, x.put(0, 1, 1, life, ALWAYS), REFUSED);
        }
        for (int rule : new int[] {-4, LEAST}) {
            C.due("rule " + rule, x.put(0, 1, 1, 0, rule), REFUSED);
        }
        C.due("REFUSED before CONFLICT", x.put(0, 1, 7, 0, -3), REFUSED);
        C.due("ENTRIES", x.count(1), 0);
        C.due("next STAMP", x.count(4), 1);
        C.due("block 0", x.block(0, 0), 0);
        C.due("SIZE 6", x.put(0, LEAST, 6, 1000, ALWAYS), 1);
        C.due("least value", x.get(0), LEAST);
        C.due("SIZE 1", x.put(0, MOST, 1, 0, ALWAYS), 2);
        C.due("greatest value", x.get(0), MOST);
    }

    private static void putFillsBlocks() {
        BlockVault x = vault("2 put: APPENDING");
        C.due("put", x.put(0, 0, 6, 0, ALWAYS), 1);
        C.due("put", x.put(1, 0, 5, 0, ALWAYS), 1);
        C.due("put to 12", x.put(2, 0, 1, 0, ALWAYS), 1);
        C.due("its block", x.entry(2, 5), 0);
        C.due("its place", x.entry(2, 6), 2);
        C.due("a full block is CURRENT still", x.block(0, 0), 1);
        C.due("its SIZES", x.block(0, 2), 12);
        C.due("put beyond 12", x.put(0, 0, 1, 0, ALWAYS), 2);
        C.due("its block", x.entry(0, 5), 1);
        C.due("its place", x.entry(0, 6), 0);
        C.due("block 0 SEALED", x.block(0, 0), 2);
        C.due("block 1 CURRENT", x.block(1, 0), 1);
        C.due("USED of block 0", x.block(0, 1), 6);
        C.due("SIZES of block 0", x.block(0, 2), 12);
        C.due("IMAGE of block 0", x.block(0, 3), 0);
        C.due("put within the block", x.put(0, 0, 3, 0, ALWAYS), 3);
        C.due("USED of block 1", x.block(1, 1), 3);
        C.due("SIZES of block 1", x.block(1, 2), 4);
    }

    private static void putBusyAndFull() {
        BlockVault x = vault("2 put: BUSY and FULL");
        makeBusy(x, 0);
        C.due("three SEALED", x.put(8, 1, 1, 0, ALWAYS), BUSY);
        C.due("CONFLICT before BUSY", x.put(8, 1, 1, 0, -3), CONFLICT);
        C.due("REFUSED before BUSY", x.put(16, 1, 1, 0, ALWAYS), REFUSED);
        C.due("next STAMP", x.count(4), 9);
        C.due("no ENTRY", x.entry(8, 0), NONE);
        C.due("old KEY", x.put(0, 77, 1, 0, ALWAYS), BUSY);
        C.due("its value", x.get(0), 0);
        C.due("block 3 CURRENT", x.block(3, 0), 1);
        C.due("block 4 FREE", x.block(4, 0), 0);

        BlockVault y = vault("2 put: no CURRENT and three SEALED");
        for (int key = 0; key < 3; key++) {
            C.due("put", y.put(key, 1, 1, 0, ALWAYS), 1);
            C.due("seal", y.seal(), 1);
        }
        C.due("put", y.put(3, 1, 6, 0, ALWAYS), 1);
        C.due("block 3 CURRENT", y.block(3, 0), 1);
        C.due("put within", y.put(4, 1, 6, 0, ALWAYS), 1);
        C.due("put beyond", y.put(5, 1, 1, 0, ALWAYS), BUSY);

        BlockVault z = vault("2 put: FULL");
        makeFull(z, 0);
        C.due("no CURRENT, none FREE", z.put(0, 1, 1, 0, ALWAYS), FULL);
        C.due("CONFLICT before FULL", z.put(0, 1, 1, 0, -2), CONFLICT);
        C.due("next STAMP", z.count(4), 17);
        C.due("GENERATION", z.entry(0, 1), 1);

        BlockVault w = vault("2 put: FULL with a CURRENT block");
        for (int key = 0; key < 15; key++) {
            C.due("put", w.put(key, key, 6, 0, ALWAYS), 1);
            if (key % 2 == 1) {
                C.due("seal", w.seal(), 1);
                C.due("flush", w.flush(1), 1);
            }
        }
        C.due("put", w.put(15, 15, 5, 0, ALWAYS), 1);
        C.due("put beyond", w.put(15, 16, 2, 0, ALWAYS), FULL);
        C.due("block 7 CURRENT still", w.block(7, 0), 1);
        C.due("put within", w.put(15, 16, 1, 0, ALWAYS), 2);
        C.due("BUSY is not said for FULL", w.put(15, 16, 1, 0, ALWAYS), FULL);
    }

    private static void get() {
        BlockVault x = vault("3 get");
        C.due("put", x.put(0, 5, 1, 3, ALWAYS), 1);
        C.due("get", x.get(0), 5);
        C.due("other KEY", x.get(1), NOTHING);
        for (int key : new int[] {-1, 16, LEAST, MOST}) {
            C.due("get " + key, x.get(key), NOTHING);
        }
        C.due("tick", x.tick(2), 2);
        C.due("before VOID time", x.get(0), 5);
        C.due("tick", x.tick(1), 3);
        C.due("at VOID time", x.get(0), NOTHING);
        C.due("put", x.put(1, -1, 1, 0, ALWAYS), 1);
        C.due("value -1", x.get(1), -1);
        C.due("tick", x.tick(1000), 1003);
        C.due("never void", x.get(1), -1);
        C.due("remove", x.remove(1, true), 1);
        C.due("TOMBSTONE", x.get(1), NOTHING);
        C.due("put", x.put(2, 2, 1, 0, ALWAYS), 1);
        C.due("crash", x.crash(-1), 1);
        C.due("DOWN", x.get(2), NOTHING);
        C.due("DOWN, key none", x.get(-1), NOTHING);
    }

    private static void touch() {
        BlockVault x = vault("4 touch");
        C.due("not THERE", x.touch(4, 1), NONE);
        C.due("put", x.put(4, 44, 5, 10, ALWAYS), 1);
        C.due("tick", x.tick(9), 9);
        C.due("touch", x.touch(4, 10), 2);
        C.due("VOID time", x.entry(4, 2), 19);
        C.due("value", x.get(4), 44);
        C.due("SIZE", x.entry(4, 4), 5);
        C.due("STAMP", x.entry(4, 3), 2);
        C.due("place", x.entry(4, 6), 1);
        C.due("USED", x.block(0, 1), 5);
        C.due("SIZES", x.block(0, 2), 10);
        C.due("life 0", x.touch(4, 0), 3);
        C.due("VOID time", x.entry(4, 2), 0);
        C.due("its block", x.entry(4, 5), 1);
        C.due("life 1000", x.touch(4, 1000), 4);
        C.due("VOID time", x.entry(4, 2), 1009);
        for (int key : new int[] {-1, 16, LEAST, MOST}) {
            C.due("touch " + key, x.touch(key, 0), REFUSED);
        }
        for (int life : new int[] {-1, 1001, LEAST, MOST}) {
            C.due("life " + life, x.touch(4, life), REFUSED);
        }
        C.due("REFUSED before NONE", x.touch(5, 1001), REFUSED);
        C.due("tick", x.tick(1000), 1009);
        C.due("EXPIRED", x.touch(4, 1), NONE);
        C.due("put", x.put(4, 1, 1, 0, ALWAYS), 1);
        C.due("remove", x.remove(4, true), 1);
        C.due("TOMBSTONE", x.touch(4, 1), NONE);
        BlockVault y = vault("4 touch: BUSY and FULL");
        makeBusy(y, 5);
        C.due("touch", y.touch(0, 9), BUSY);
        C.due("NONE before BUSY", y.touch(9, 9), NONE);
        C.due("VOID time", y.entry(0, 2), 5);
        BlockVault z = vault("4 touch: FULL");
        makeFull(z, 5);
        C.due("touch", z.touch(0, 9), FULL);
        C.due("next STAMP", z.count(4), 17);
    }

    private static void remove() {
        BlockVault x = vault("5 remove");
        for (int key : new int[] {-1, 16, LEAST, MOST}) {
            C.due("remove " + key, x.remove(key, true), REFUSED);
            C.due("remove " + key, x.remove(key, false), REFUSED);
        }
        C.due("not THERE", x.remove(0, true), NONE);
        C.due("not THERE", x.remove(0, false), NONE);
        C.due("put", x.put(0, 1, 4, 0, ALWAYS), 1);
        C.due("put", x.put(1, 1, 4, 2, ALWAYS), 1);
        C.due("lasting", x.remove(0, true), 1);
        int[] tombstone = {2, 0, 0, 3, 1, 0, 2};
        for (int what = 0; what < 7; what++) {
            C.due("entry of a TOMBSTONE " + what, x.entry(0, what), tombstone[what]);
        }
        C.due("USED", x.block(0, 1), 5);
        C.due("SIZES", x.block(0, 2), 9);
        C.due("again", x.remove(0, true), NONE);
        C.due("again", x.remove(0, false), NONE);
        C.due("not lasting", x.remove(1, false), 1);
        C.due("no ENTRY", x.entry(1, 0), NONE);
        C.due("next STAMP", x.count(4), 4);
        C.due("USED", x.block(0, 1), 1);
        C.due("SIZES", x.block(0, 2), 9);
        C.due("put", x.put(2, 1, 1, 2, ALWAYS), 1);
        C.due("tick", x.tick(2), 2);
        C.due("EXPIRED", x.remove(2, false), NONE);
        C.due("EXPIRED", x.remove(2, true), NONE);
        C.due("its ENTRY stays", x.entry(2, 0), 1);
        BlockVault y = vault("5 remove: BUSY");
        makeBusy(y, 0);
        C.due("lasting", y.remove(0, true), BUSY);
        C.due("NONE before BUSY", y.remove(9, true), NONE);
        C.due("THERE", y.get(0), 0);
        C.due("not lasting", y.remove(0, false), 1);
        BlockVault z = vault("5 remove: FULL");
        makeFull(z, 0);
        C.due("lasting", z.remove(1, true), FULL);
        C.due("THERE", z.get(1), 1);
        C.due("not lasting", z.remove(1, false), 1);
    }

    private static void evict() {
        BlockVault x = vault("6 evict");
        for (int n : new int[] {0, -1, 17, LEAST, MOST}) {
            C.due("evict " + n, x.evict(n), REFUSED);
        }
        C.due("of none", x.evict(16), 0);
        C.due("put", x.put(5, 1, 1, 8, ALWAYS), 1);
        C.due("put", x.put(9, 1, 1, 3, ALWAYS), 1);
        C.due("put", x.put(2, 1, 1, 8, ALWAYS), 1);
        C.due("put", x.put(7, 1, 1, 0, ALWAYS), 1);
        C.due("put", x.put(0, 1, 1, 2, ALWAYS), 1);
        C.due("tick", x.tick(2), 2);
        C.due("evict", x.evict(1), 1);
        C.due("least VOID time", x.entry(9, 0), 2);
        C.due("its STAMP", x.entry(9, 3), 6);
        C.due("the EXPIRED one stays", x.entry(0, 0), 1);
        C.due("evict", x.evict(1), 1);
        C.due("of several the least KEY", x.entry(2, 0), 2);
        C.due("the other", x.entry(5, 0), 1);
        C.due("evict", x.evict(16), 1);
        C.due("the other", x.entry(5, 0), 2);
        C.due("without VOID time", x.entry(7, 0), 1);
        C.due("next STAMP", x.count(4), 9);
        C.due("TOMBSTONES", x.count(2), 3);
        BlockVault y = vault("6 evict: sixteen");
        for (int key = 0; key < 16; key++) {
            C.due("put", y.put(key, 1, 1, 20 - key, ALWAYS), 1);
        }
        C.due("evict", y.evict(16), 16);
        C.due("last first", y.entry(15, 3), 17);
        C.due("first last", y.entry(0, 3), 32);
        C.due("THERE", y.count(0), 0);
        C.due("put", y.put(0, 1, 1, 1, ALWAYS), 1);
        C.due("the least VOID time there is", y.evict(1), 1);
        C.due("crash", y.crash(-1), 1);
        C.due("DOWN", y.evict(1), DOWN);
        C.due("REFUSED before DOWN", y.evict(0), REFUSED);
    }

    private static void evictStopped() {
        BlockVault x = vault("6 evict: BUSY");
        for (int key = 0; key < 7; key++) {
            C.due("put", x.put(key, key, 6, 9, ALWAYS), 1);
        }
        C.due("put", x.put(7, 7, 4, 9, ALWAYS), 1);
        C.due("evict", x.evict(5), 2);
        C.due("TOMBSTONES", x.count(2), 2);
        C.due("THERE", x.get(2), 2);
        C.due("evict", x.evict(5), 0);
        C.due("next STAMP", x.count(4), 11);
        BlockVault y = vault("6 evict: FULL");
        makeFull(y, 9);
        C.due("evict", y.evict(1), 0);
        C.due("THERE", y.count(0), 16);
    }

    private static void tick() {
        BlockVault x = vault("7 tick");
        C.due("tick", x.tick(0), 0);
        C.due("tick", x.tick(1000), 1000);
        for (int n : new int[] {-1, 1001, LEAST, MOST}) {
            C.due("tick " + n, x.tick(n), REFUSED);
        }
        C.due("CLOCK", x.count(3), 1000);
        C.due("crash", x.crash(-1), 1);
        C.due("tick while DOWN", x.tick(3), 1003);
        C.due("REFUSED while DOWN", x.tick(-1), REFUSED);
        C.due("CLOCK while DOWN", x.count(3), 1003);
        C.due("start", x.start(), 0);
        C.due("tick", x.tick(1), 1004);
    }

    private static void sweepExpired() {
        BlockVault x = vault("8 sweep: EXPIRED");
        C.due("of none", x.sweep(), 0);
        C.due("put", x.put(1, 1, 6, 5, ALWAYS), 1);
        C.due("put", x.put(2, 1, 6, 5, ALWAYS), 1);
        C.due("put", x.put(3, 1, 6, 6, ALWAYS), 1);
        C.due("put", x.put(4, 1, 6, 0, ALWAYS), 1);
        C.due("flush", x.flush(1), 1);
        C.due("tick", x.tick(4), 4);
        C.due("before", x.sweep(), 0);
        C.due("tick", x.tick(1), 5);
        C.due("LIVE still", x.block(0, 1), 12);
        C.due("at VOID time", x.sweep(), 2);
        C.due("ENTRIES", x.count(1), 2);
        C.due("EMPTIED", x.block(0, 0), 4);
        C.due("keeps its IMAGE", x.block(0, 3), 2);
        C.due("WAITS", x.block(0, 4), 1);
        C.due("again", x.sweep(), 0);
        C.due("tick", x.tick(1000), 1005);
        C.due("sweep", x.sweep(), 1);
        C.due("ENTRIES", x.count(1), 1);
        C.due("next STAMP", x.count(4), 5);
        C.due("put of the first KEY", x.put(0, 1, 1, 1, ALWAYS), 1);
        C.due("put of the last KEY", x.put(15, 1, 1, 1, ALWAYS), 1);
        C.due("tick", x.tick(1), 1006);
        C.due("sweep", x.sweep(), 2);
        C.due("crash", x.crash(-1), 1);
        C.due("DOWN", x.sweep(), DOWN);
    }

    private static void sweepTombstones() {
        BlockVault x = vault("8 sweep: TOMBSTONES");
        C.due("put", x.put(1, 1, 6, 0, ALWAYS), 1);
        C.due("seal", x.seal(), 1);
        C.due("flush", x.flush(1), 1);
        C.due("remove", x.remove(1, true), 1);
        C.due("block 0 EMPTIED", x.block(0, 0), 4);
        C.due("COPY in an EMPTIED block's IMAGE", x.sweep(), 0);
        C.due("seal", x.seal(), 1);
        C.due("flush", x.flush(1), 1);
        C.due("block 0 FREE", x.block(0, 0), 0);
        C.due("COPY in a FREE block's IMAGE", x.sweep(), 0);
        C.due("put", x.put(2, 1, 6, 0, ALWAYS), 1);
        C.due("in block 0", x.entry(2, 5), 0);
        C.due("IMAGE stays while CURRENT", x.sweep(), 0);
        C.due("IMAGE's STAMP", x.image(0, 0), 1);
        C.due("seal", x.seal(), 1);
        C.due("IMAGE stays while SEALED", x.sweep(), 0);
        C.due("flush", x.flush(1), 1);
        C.due("IMAGE's STAMP", x.image(0, 0), 3);
        C.due("only such as have its STAMP", x.sweep(), 1);
        C.due("no ENTRY", x.entry(1, 0), NONE);
        C.due("block 1 FREE at once", x.block(1, 0), 0);
        C.due("its IMAGE", x.image(1, 0), 2);
        C.due("next STAMP", x.count(4), 4);
    }

    private static void sweepLooksAtContents() {
        BlockVault x = vault("8 sweep: CONTENTS");
        C.due("put", x.put(1, 1, 6, 0, ALWAYS), 1);
        C.due("remove", x.remove(1, true), 1);
        C.due("COPY in the CURRENT block", x.sweep(), 0);
        C.due("seal", x.seal(), 1);
        C.due("COPY in a SEALED block", x.sweep(), 0);
        C.due("crash after the first", x.crash(1), 1);
        C.due("start", x.start(), 1);
        C.due("remove", x.remove(1, true), 1);
        C.due("EMPTIED", x.block(0, 0), 4);
        C.due("seal", x.seal(), 1);
        C.due("flush", x.flush(1), 1);
        C.due("FREE", x.block(0, 0), 0);
        C.due("put", x.put(2, 2, 6, 0, ALWAYS), 1);
        C.due("seal", x.seal(), 1);
        C.due("flush", x.flush(1), 1);
        C.due("put", x.put(3, 3, 1, 0, ALWAYS), 1);
        C.due("compact moves the TOMBSTONE", x.compact(2), 1);
        C.due("its STAMP", x.entry(1, 3), 2);
        C.due("its block", x.entry(1, 5), 2);
        C.due("the same TOMBSTONE in an IMAGE", x.image(1, 0), 2);
        C.due("sweep", x.sweep(), 1);
        C.due("no ENTRY", x.entry(1, 0), NONE);
    }

    private static void seal() {
        BlockVault x = vault("9 seal");
        C.due("none CURRENT", x.seal(), 0);
        for (int key = 0; key < 3; key++) {
            C.due("put", x.put(key, 1, 1, 0, ALWAYS), 1);
            C.due("seal", x.seal(), 1);
            C.due("SEALED", x.block(key, 0), 2);
            C.due("none CURRENT", x.seal(), 0);
        }
        C.due("put", x.put(3, 1, 1, 0, ALWAYS), 1);
        C.due("three SEALED", x.seal(), BUSY);
        C.due("CURRENT", x.block(3, 0), 1);
        C.due("flush", x.flush(1), 1);
        C.due("seal", x.seal(), 1);
        C.due("crash", x.crash(-1), 1);
        C.due("DOWN", x.seal(), DOWN);
    }

    private static void flush() {
        BlockVault x = vault("10 flush");
        for (int n : new int[] {0, -1, 4, LEAST, MOST}) {
            C.due("flush " + n, x.flush(n), REFUSED);
        }
        C.due("of none", x.flush(3), 0);
        makeBusy(x, 0);
        C.due("flush", x.flush(1), 1);
        C.due("block 0", x.block(0, 0), 3);
        C.due("block 1", x.block(1, 0), 2);
        C.due("IMAGE", x.block(0, 3), 2);
        C.due("first", x.image(0, 0), 1);
        C.due("second", x.image(0, 1), 2);
        C.due("flush", x.flush(2), 2);
        C.due("flush", x.flush(1), 0);
        C.due("CURRENT", x.block(3, 0), 1);
        C.due("IMAGE of the CURRENT one", x.block(3, 3), 0);
        C.due("how many", x.count(5), 3);
        C.due("remove", x.remove(0, false), 1);
        C.due("remove", x.remove(1, false), 1);
        C.due("seal", x.seal(), 1);
        C.due("EMPTIED", x.block(0, 0), 4);
        C.due("put", x.put(8, 1, 1, 0, ALWAYS), 1);
        C.due("in block 4", x.entry(8, 5), 4);
        C.due("flush", x.flush(3), 1);
        C.due("FREE", x.block(0, 0), 0);
        C.due("seal", x.seal(), 1);
        C.due("put", x.put(9, 1, 1, 0, ALWAYS), 1);
        C.due("in block 0", x.entry(9, 5), 0);
        C.due("seal", x.seal(), 1);
        C.due("flush", x.flush(1), 1);
        C.due("SEALED longest, not the least number", x.block(4, 0), 3);
        C.due("the other", x.block(0, 0), 2);
        C.due("flush", x.flush(3), 1);
        C.due("how many", x.count(5), 6);
        C.due("crash", x.crash(-1), 1);
        C.due("DOWN", x.flush(1), DOWN);
        C.due("REFUSED before DOWN", x.flush(4), REFUSED);
    }

    private static void flushEmptied() {
        BlockVault x = vault("10 flush of a block without LIVE COPIES");
        C.due("put", x.put(0, 1, 6, 0, ALWAYS), 1);
        C.due("seal", x.seal(), 1);
        C.due("put", x.put(0, 2, 6, 0, ALWAYS), 2);
        C.due("SEALED ones are not EMPTIED", x.block(0, 0), 2);
        C.due("USED", x.block(0, 1), 0);
        C.due("SIZES", x.block(0, 2), 6);
        C.due("compact looks at WRITTEN ones alone", x.compact(12), NONE);
        C.due("flush", x.flush(1), 1);
        C.due("EMPTIED", x.block(0, 0), 4);
        C.due("SIZES", x.block(0, 2), 0);
        C.due("IMAGE", x.image(0, 0), 1);
        C.due("WAITS", x.block(0, 4), 1);
        C.due("WRITTEN by flush", x.count(5), 1);
        C.due("remove", x.remove(0, false), 1);
        C.due("seal", x.seal(), 1);
        C.due("flush", x.flush(1), 1);
        C.due("block 0 FREE", x.block(0, 0), 0);
        C.due("block 1 FREE at once", x.block(1, 0), 0);
        C.due("IMAGE", x.image(1, 0), 2);
    }

    private static void compactChoice() {
        BlockVault x = vault("11 compact: choice");
        for (int limit : new int[] {0, -1, 13, LEAST, MOST}) {
            C.due("compact " + limit, x.compact(limit), REFUSED);
        }
        C.due("no block", x.compact(12), NONE);
        writePair(x, 0, 1);
        C.due("not below the limit", x.compact(12), NONE);
        C.due("the least limit", x.compact(1), NONE);
        writePair(x, 2, 3);
        writePair(x, 4, 5);
        C.due("remove", x.remove(3, false), 1);
        C.due("remove", x.remove(5, false), 1);
        C.due("not below the limit", x.compact(6), NONE);
        C.due("of several the least number", x.compact(7), 1);
        C.due("moved", x.entry(2, 5), 3);
        C.due("not moved", x.entry(4, 5), 2);
        C.due("put", x.put(6, 1, 1, 0, ALWAYS), 1);
        C.due("put", x.put(7, 1, 5, 0, ALWAYS), 1);
        C.due("seal", x.seal(), 1);
        C.due("flush", x.flush(1), 1);
        C.due("remove", x.remove(2, false), 1);
        C.due("remove", x.remove(7, false), 1);
        C.due("the least USED", x.compact(12), 1);
        C.due("moved", x.entry(6, 5), 1);
        C.due("not moved", x.entry(4, 5), 2);
        C.due("how many", x.count(6), 2);
        C.due("crash", x.crash(-1), 1);
        C.due("DOWN", x.compact(12), DOWN);
        C.due("REFUSED before DOWN", x.compact(13), REFUSED);
    }

    private static void compactMoves() {
        BlockVault x = vault("11 compact: moves");
        C.due("put", x.put(4, 40, 3, 9, ALWAYS), 1);
        C.due("put", x.put(4, 41, 3, 9, ALWAYS), 2);
        C.due("put", x.put(2, 20, 2, 0, ALWAYS), 1);
        C.due("put", x.put(3, 30, 2, 0, ALWAYS), 1);
        C.due("remove", x.remove(3, true), 1);
        C.due("seal", x.seal(), 1);
        C.due("flush", x.flush(1), 1);
        C.due("put", x.put(9, 90, 1, 0, ALWAYS), 1);
        C.due("tick", x.tick(9), 9);
        C.due("USED", x.block(0, 1), 6);
        C.due("compact", x.compact(7), 3);
        int[] keys = {4, 2, 3};
        int[][] due = {{1, 2, 9, 2, 3, 1, 1}, {1, 1, 0, 3, 2, 1, 2}, {2, 0, 0, 5, 1, 1, 3}};
        for (int i = 0; i < 3; i++) {
            for (int what = 0; what < 7; what++) {
                C.due("entry " + keys[i] + " " + what, x.entry(keys[i], what), due[i][what]);
            }
        }
        C.due("value", x.get(2), 20);
        C.due("EXPIRED ones move, too", x.get(4), NOTHING);
        C.due("next STAMP", x.count(4), 7);
        C.due("EMPTIED", x.block(0, 0), 4);
        C.due("IMAGE stays", x.block(0, 3), 5);
        C.due("moved", x.count(6), 3);
        C.due("USED", x.block(1, 1), 7);
        C.due("seal", x.seal(), 1);
        C.due("flush", x.flush(1), 1);
        C.due("IMAGE in order", x.image(1, 1), 2);
        C.due("IMAGE in order", x.image(1, 2), 3);
        C.due("IMAGE in order", x.image(1, 3), 5);
        C.due("compact to a FREE block", x.compact(12), 4);
        C.due("in block 0", x.entry(9, 5), 0);
        C.due("moved", x.count(6), 7);
    }

    private static void compactStopped() {
        BlockVault x = vault("11 compact: BUSY");
        C.due("put", x.put(10, 1, 2, 0, ALWAYS), 1);
        C.due("put", x.put(11, 2, 3, 0, ALWAYS), 1);
        C.due("put", x.put(12, 3, 1, 0, ALWAYS), 1);
        C.due("seal", x.seal(), 1);
        C.due("flush", x.flush(1), 1);
        for (int key = 0; key < 7; key++) {
            C.due("put", x.put(key, key, 6, 0, ALWAYS), 1);
        }
        C.due("put", x.put(7, 7, 3, 0, ALWAYS), 1);
        C.due("stopped by the second", x.compact(12), 1);
        C.due("moved", x.entry(10, 5), 4);
        C.due("not moved", x.entry(11, 5), 0);
        C.due("not moved though it has room", x.entry(12, 5), 0);
        C.due("WRITTEN still", x.block(0, 0), 3);
        C.due("USED", x.block(0, 1), 4);
        C.due("SIZES", x.block(0, 2), 6);
        C.due("none moves", x.compact(12), 0);
        C.due("moved", x.count(6), 1);
        BlockVault y = vault("11 compact: FULL");
        makeFull(y, 0);
        C.due("remove", y.remove(3, false), 1);
        C.due("compact", y.compact(12), 0);
        C.due("its block", y.entry(2, 5), 1);
        C.due("moved", y.count(6), 0);
    }

    private static void waits() {
        BlockVault x = vault("EMPTIED and WAITS");
        writePair(x, 0, 1);
        for (int key = 2; key < 7; key++) {
            C.due("put", x.put(key, key, 6, 0, ALWAYS), 1);
        }
        C.due("remove", x.remove(0, false), 1);
        C.due("WRITTEN with one LIVE", x.block(0, 0), 3);
        C.due("WAITS of a WRITTEN one", x.block(0, 4), 0);
        C.due("put", x.put(1, 2, 6, 0, ALWAYS), 2);
        C.due("EMPTIED", x.block(0, 0), 4);
        C.due("two SEALED, one CURRENT", x.block(0, 4), 3);
        C.due("no CONTENT", x.block(0, 2), 0);
        C.due("IMAGE stays", x.block(0, 3), 2);
        C.due("put", x.put(7, 1, 6, 0, ALWAYS), 1);
        C.due("a later block is not waited for", x.block(0, 4), 3);
        C.due("flush", x.flush(1), 1);
        C.due("WAITS", x.block(0, 4), 2);
        C.due("flush", x.flush(1), 1);
        C.due("WAITS", x.block(0, 4), 1);
        C.due("EMPTIED still", x.block(0, 0), 4);
        C.due("flush", x.flush(1), 1);
        C.due("FREE", x.block(0, 0), 0);
        C.due("WAITS", x.block(0, 4), 0);
        C.due("the later one is CURRENT", x.block(4, 0), 1);
        BlockVault y = vault("EMPTIED: the new CURRENT block is waited for");
        C.due("put", y.put(0, 1, 6, 0, ALWAYS), 1);
        C.due("seal", y.seal(), 1);
        C.due("flush", y.flush(1), 1);
        C.due("put", y.put(0, 2, 6, 0, ALWAYS), 2);
        C.due("EMPTIED", y.block(0, 0), 4);
        C.due("WAITS", y.block(0, 4), 1);
        C.due("crash", y.crash(-1), 1);
        C.due("WAITS", y.block(0, 4), 0);
        C.due("start", y.start(), 1);
        C.due("the old COPY", y.get(0), 1);
    }

    private static void waitsOfSeveral() {
        BlockVault x = vault("WAITS: a block that was waited for is EMPTIED itself");
        writePair(x, 0, 1);
        C.due("put", x.put(2, 1, 6, 0, ALWAYS), 1);
        C.due("seal", x.seal(), 1);
        C.due("put", x.put(3, 1, 6, 0, ALWAYS), 1);
        C.due("remove", x.remove(0, false), 1);
        C.due("remove", x.remove(1, false), 1);
        C.due("WAITS for 1 and 2", x.block(0, 4), 2);
        C.due("seal", x.seal(), 1);
        C.due("remove", x.remove(2, false), 1);
        C.due("flush", x.flush(1), 1);
        C.due("WAITS for 2", x.block(0, 4), 1);
        C.due("block 1 EMPTIED", x.block(1, 0), 4);
        C.due("WAITS for 2", x.block(1, 4), 1);
        C.due("flush", x.flush(1), 1);
        C.due("FREE", x.block(0, 0), 0);
        C.due("FREE", x.block(1, 0), 0);
        C.due("WRITTEN", x.block(2, 0), 3);
    }

    private static void freeAtOnce() {
        BlockVault x = vault("FREE at once");
        writePair(x, 0, 1);
        C.due("remove", x.remove(0, false), 1);
        C.due("remove", x.remove(1, false), 1);
        C.due("FREE", x.block(0, 0), 0);
        C.due("SIZES", x.block(0, 2), 0);
        C.due("IMAGE", x.block(0, 3), 2);
        C.due("put", x.put(0, 1, 1, 0, ALWAYS), 1);
        C.due("in block 0", x.entry(0, 5), 0);
        C.due("place", x.entry(0, 6), 0);
        C.due("IMAGE", x.block(0, 3), 2);
    }

    private static void crashRefused() {
        BlockVault x = vault("12 crash: REFUSED");
        for (int k : new int[] {0, 1, -2, LEAST, MOST}) {
            C.due("none SEALED: " + k, x.crash(k), REFUSED);
        }
        C.due("put", x.put(0, 1, 1, 0, ALWAYS), 1);
        C.due("CURRENT is not SEALED", x.crash(0), REFUSED);
        C.due("put", x.put(1, 1, 1, 0, ALWAYS), 1);
        C.due("seal", x.seal(), 1);
        for (int k : new int[] {3, -2, LEAST, MOST}) {
            C.due("crash " + k, x.crash(k), REFUSED);
        }
        C.due("not DOWN", x.count(7), 0);
        C.due("IMAGE", x.block(0, 3), 0);
        C.due("crash", x.crash(2), 1);
        C.due("IMAGE", x.block(0, 3), 2);
        for (int k : new int[] {0, 1, -2, LEAST, MOST}) {
            C.due("while DOWN: " + k, x.crash(k), REFUSED);
        }
        C.due("while DOWN", x.crash(-1), DOWN);
        C.due("start", x.start(), 2);
        C.due("WRITTEN is not SEALED", x.crash(0), REFUSED);
    }

    private static void crashTorn() {
        BlockVault x = vault("12 crash: first COPIES");
        C.due("put", x.put(0, 1, 6, 0, ALWAYS), 1);
        C.due("put", x.put(1, 2, 5, 0, ALWAYS), 1);
        C.due("seal", x.seal(), 1);
        C.due("put", x.put(2, 3, 6, 0, ALWAYS), 1);
        C.due("seal", x.seal(), 1);
        C.due("crash", x.crash(1), 1);
        C.due("IMAGE", x.block(0, 3), 1);
        C.due("first", x.image(0, 0), 1);
        C.due("no second", x.image(0, 1), NONE);
        C.due("SEALED later", x.block(1, 3), 0);
        C.due("WRITTEN by flush", x.count(5), 0);
        C.due("start", x.start(), 1);
        C.due("value", x.get(0), 1);

        BlockVault y = vault("12 crash: none of an IMAGE that was");
        writePair(y, 0, 1);
        C.due("remove", y.remove(0, false), 1);
        C.due("remove", y.remove(1, false), 1);
        C.due("put", y.put(2, 3, 6, 0, ALWAYS), 1);
        C.due("seal", y.seal(), 1);
        C.due("IMAGE", y.block(0, 3), 2);
        C.due("crash", y.crash(0), 1);
        C.due("IMAGE", y.block(0, 3), 0);
        C.due("start", y.start(), 0);
        C.due("next STAMP", y.count(4), 1);

        BlockVault z = vault("12 crash: IMAGES stay");
        writePair(z, 0, 1);
        C.due("remove", z.remove(0, false), 1);
        C.due("remove", z.remove(1, false), 1);
        C.due("put", z.put(2, 3, 6, 0, ALWAYS), 1);
        C.due("seal", z.seal(), 1);
        C.due("crash", z.crash(-1), 1);
        C.due("IMAGE", z.block(0, 3), 2);
        C.due("start", z.start(), 2);
        C.due("lost", z.get(2), NOTHING);
        C.due("found again", z.get(1), 101);
    }

    private static void crashLoses() {
        BlockVault x = vault("12 crash: what is lost and what stays");
        writePair(x, 0, 1);
        C.due("remove", x.remove(0, true), 1);
        C.due("compact", x.compact(12), 1);
        C.due("tick", x.tick(5), 5);
        C.due("crash", x.crash(-1), 1);
        int[] counts = {0, 0, 0, 5, 0, 1, 1, 1};
        for (int what = 0; what < 8; what++) {
            C.due("count " + what, x.count(what), counts[what]);
        }
        for (int b = 0; b < 8; b++) {
            C.due("STATE", x.block(b, 0), 0);
            C.due("USED", x.block(b, 1), 0);
            C.due("SIZES", x.block(b, 2), 0);
            C.due("IMAGE", x.block(b, 3), b == 0 ? 2 : 0);
            C.due("WAITS", x.block(b, 4), 0);
        }
        C.due("start", x.start(), 2);
        C.due("flushed", x.count(5), 1);
        C.due("moved", x.count(6), 1);
        C.due("DOWN", x.count(7), 0);
        C.due("none CURRENT", x.seal(), 0);
    }

    private static void whileDown() {
        BlockVault x = vault("DOWN");
        C.due("put", x.put(0, 1, 1, 0, ALWAYS), 1);
        C.due("crash", x.crash(-1), 1);
        C.due("put", x.put(0, 1, 1, 0, ALWAYS), DOWN);
        C.due("DOWN before CONFLICT", x.put(0, 1, 1, 0, -3), DOWN);
        C.due("put REFUSED", x.put(0, 1, 7, 0, ALWAYS), REFUSED);
        C.due("touch", x.touch(0, 1), DOWN);
        C.due("touch REFUSED", x.touch(0, -1), REFUSED);
        C.due("remove", x.remove(0, true), DOWN);
        C.due("remove", x.remove(0, false), DOWN);
        C.due("remove REFUSED", x.remove(16, false), REFUSED);
        C.due("entry", x.entry(0, 0), DOWN);
        C.due("entry REFUSED", x.entry(0, 7), REFUSED);
        C.due("entry REFUSED", x.entry(-1, 0), REFUSED);
        C.due("next", x.next(-1), DOWN);
        C.due("rank", x.rank(16), DOWN);
        C.due("block REFUSED", x.block(8, 0), REFUSED);
        C.due("image REFUSED", x.image(8, 0), REFUSED);
        C.due("count REFUSED", x.count(8), REFUSED);
        C.due("start", x.start(), 0);
        C.due("next STAMP", x.count(4), 1);
        C.due("ENTRIES", x.count(1), 0);
    }

    private static void start() {
        BlockVault x = vault("13 start");
        C.due("not DOWN", x.start(), DOWN);
        C.due("put", x.put(0, 10, 1, 5, ALWAYS), 1);
        C.due("put", x.put(1, 11, 2, 6, ALWAYS), 1);
        C.due("put", x.put(2, 12, 3, 0, ALWAYS), 1);
        C.due("remove", x.remove(2, true), 1);
        C.due("seal", x.seal(), 1);
        C.due("flush", x.flush(1), 1);
        C.due("crash", x.crash(-1), 1);
        C.due("tick while DOWN", x.tick(5), 5);
        C.due("start", x.start(), 1);
        C.due("not DOWN", x.count(7), 0);
        C.due("an EXPIRED one has no ENTRY", x.entry(0, 0), NONE);
        int[] record = {1, 1, 6, 2, 2, 0, 1};
        int[] tombstone = {2, 0, 0, 4, 1, 0, 3};
        for (int what = 0; what < 7; what++) {
            C.due("RECORD " + what, x.entry(1, what), record[what]);
            C.due("TOMBSTONE " + what, x.entry(2, what), tombstone[what]);
        }
        C.due("value", x.get(1), 11);
        C.due("WRITTEN", x.block(0, 0), 3);
        C.due("USED", x.block(0, 1), 3);
        C.due("SIZES of the whole IMAGE", x.block(0, 2), 7);
        C.due("next STAMP", x.count(4), 5);
        C.due("again", x.start(), DOWN);
        C.due("put", x.put(1, 12, 1, 0, 1), 2);
        C.due("in the FREE block with the least number", x.entry(1, 5), 1);
        C.due("crash", x.crash(-1), 1);
        C.due("tick", x.tick(1), 6);
        C.due("start", x.start(), 0);
        C.due("the TOMBSTONE holds the block", x.block(0, 0), 3);
        C.due("ENTRIES", x.count(1), 1);
    }

    private static void startChoosesNewest() {
        BlockVault x = vault("13 start: the greatest STAMP");
        C.due("put", x.put(0, 1, 6, 0, ALWAYS), 1);
        C.due("put", x.put(1, 1, 6, 0, ALWAYS), 1);
        C.due("put", x.put(0, 2, 6, 3, ALWAYS), 2);
        C.due("put", x.put(2, 1, 6, 0, ALWAYS), 1);
        C.due("seal", x.seal(), 1);
        C.due("flush", x.flush(2), 2);
        C.due("crash", x.crash(-1), 1);
        C.due("start", x.start(), 3);
        C.due("the newer one", x.get(0), 2);
        C.due("its block", x.entry(0, 5), 1);
        C.due("USED", x.block(0, 1), 6);
        C.due("crash", x.crash(-1), 1);
        C.due("tick", x.tick(3), 3);
        C.due("start", x.start(), 2);
        C.due("EXPIRED, and the older one does not count", x.entry(0, 0), NONE);
        C.due("remove", x.remove(2, false), 1);
        C.due("FREE", x.block(1, 0), 0);
        C.due("crash", x.crash(-1), 1);
        C.due("start finds it again", x.start(), 2);
        C.due("value", x.get(2), 1);
        C.due("put", x.put(1, 5, 6, 1, ALWAYS), 2);
        C.due("seal", x.seal(), 1);
        C.due("flush", x.flush(1), 1);
        C.due("crash", x.crash(-1), 1);
        C.due("tick", x.tick(1), 4);
        C.due("start", x.start(), 1);
        C.due("a block without LIVE COPIES is FREE", x.block(0, 0), 0);
        C.due("no CONTENT", x.block(0, 2), 0);
        C.due("IMAGE", x.block(0, 3), 2);
        C.due("a block without LIVE COPIES is FREE", x.block(2, 0), 0);
        C.due("next STAMP of any IMAGE", x.count(4), 6);
    }

    private static void startChoosesFirstOfSeveral() {
        BlockVault x = vault("13 start: one COPY in several IMAGES");
        writePair(x, 0, 1);
        C.due("remove", x.remove(1, false), 1);
        C.due("compact", x.compact(12), 1);
        C.due("put", x.put(2, 2, 6, 0, ALWAYS), 1);
        C.due("seal", x.seal(), 1);
        C.due("flush", x.flush(1), 1);
        C.due("same STAMP", x.image(0, 0), 1);
        C.due("same STAMP", x.image(1, 0), 1);
        C.due("crash", x.crash(-1), 1);
        C.due("start", x.start(), 3);
        C.due("the least number", x.entry(0, 5), 0);
        C.due("USED", x.block(0, 1), 12);
        C.due("USED", x.block(1, 1), 6);
        C.due("SIZES", x.block(1, 2), 12);
        C.due("compact moves what is LIVE there", x.compact(12), 1);
        C.due("moved", x.entry(2, 5), 2);
        C.due("not moved", x.entry(0, 5), 0);
        C.due("EMPTIED", x.block(1, 0), 4);
    }

    private static void startStamp() {
        BlockVault x = vault("13 start: next STAMP");
        writePair(x, 0, 1);
        C.due("put", x.put(2, 2, 1, 0, ALWAYS), 1);
        C.due("put", x.put(3, 2, 1, 0, ALWAYS), 1);
        C.due("seal", x.seal(), 1);
        C.due("crash", x.crash(1), 1);
        C.due("start", x.start(), 3);
        C.due("next STAMP", x.count(4), 4);
        C.due("put", x.put(3, 9, 1, 0, ALWAYS), 1);
        C.due("STAMP", x.entry(3, 3), 4);
        C.due("its block", x.entry(3, 5), 2);
    }

    private static void entry() {
        BlockVault x = vault("14 entry");
        C.due("put", x.put(3, 1, 2, 0, ALWAYS), 1);
        C.due("put", x.put(3, 1, 4, 77, ALWAYS), 2);
        int[] due = {1, 2, 77, 2, 4, 0, 1};
        for (int what = 0; what < 7; what++) {
            C.due("entry " + what, x.entry(3, what), due[what]);
            C.due("no ENTRY " + what, x.entry(4, what), NONE);
        }
        for (int what : new int[] {-1, 7, LEAST, MOST}) {
            C.due("entry " + what, x.entry(3, what), REFUSED);
            C.due("REFUSED before NONE " + what, x.entry(4, what), REFUSED);
        }
        for (int key : new int[] {-1, 16, LEAST, MOST}) {
            C.due("key " + key, x.entry(key, 0), REFUSED);
        }
        C.due("tick", x.tick(77), 77);
        C.due("EXPIRED", x.entry(3, 0), 1);
        C.due("EXPIRED", x.entry(3, 1), 2);
    }

    private static void nextAndRank() {
        BlockVault x = vault("15 next, 16 rank");
        for (int key : new int[] {0, 7, 15}) {
            C.due("put", x.put(key, 1, 1, key, ALWAYS), 1);
        }
        C.due("put", x.put(4, 1, 1, 0, ALWAYS), 1);
        C.due("remove", x.remove(4, true), 1);
        C.due("tick", x.tick(7), 7);
        int[] at = {LEAST, -1, 0, 3, 4, 5, 7, 14, 15, 16, MOST};
        int[] nexts = {0, 0, 4, 4, 7, 7, 15, 15, NONE, NONE, NONE};
        int[] ranks = {0, 0, 0, 1, 1, 2, 2, 3, 3, 4, 4};
        for (int i = 0; i < at.length; i++) {
            C.due("next " + at[i], x.next(at[i]), nexts[i]);
            C.due("rank " + at[i], x.rank(at[i]), ranks[i]);
        }
        C.due("sweep", x.sweep(), 1);
        C.due("next", x.next(4), 15);
        C.due("rank", x.rank(15), 2);
    }

    private static void block() {
        BlockVault x = vault("17 block");
        C.due("put", x.put(0, 1, 5, 0, ALWAYS), 1);
        C.due("put", x.put(0, 1, 4, 0, ALWAYS), 2);
        int[] current = {1, 4, 9, 0, 0};
        int[] sealed = {2, 4, 9, 0, 0};
        int[] written = {3, 4, 9, 2, 0};
        int[] emptied = {4, 0, 0, 2, 1};
        int[] free = {0, 0, 0, 2, 0};
        blockIs(x, 0, current);
        C.due("seal", x.seal(), 1);
        blockIs(x, 0, sealed);
        C.due("flush", x.flush(1), 1);
        blockIs(x, 0, written);
        C.due("put", x.put(0, 1, 1, 0, ALWAYS), 3);
        blockIs(x, 0, emptied);
        C.due("seal", x.seal(), 1);
        blockIs(x, 0, emptied);
        C.due("flush", x.flush(1), 1);
        blockIs(x, 0, free);
        for (int b : new int[] {-1, 8, LEAST, MOST}) {
            C.due("block " + b, x.block(b, 0), REFUSED);
        }
        for (int what : new int[] {-1, 5, LEAST, MOST}) {
            C.due("what " + what, x.block(0, what), REFUSED);
        }
        C.due("block 7", x.block(7, 0), 0);
    }

    private static void blockIs(BlockVault x, int b, int[] due) {
        for (int what = 0; what < due.length; what++) {
            C.due("block " + b + " " + what, x.block(b, what), due[what]);
        }
    }

    private static void image() {
        BlockVault x = vault("18 image");
        C.due("put", x.put(0, 1, 1, 0, ALWAYS), 1);
        C.due("put", x.put(1, 1, 1, 0, ALWAYS), 1);
        C.due("CONTENT is no IMAGE", x.image(0, 0), NONE);
        C.due("seal", x.seal(), 1);
        C.due("nor when SEALED", x.image(0, 0), NONE);
        C.due("flush", x.flush(1), 1);
        C.due("first", x.image(0, 0), 1);
        C.due("second", x.image(0, 1), 2);
        for (int k : new int[] {-1, 2, 12, LEAST, MOST}) {
            C.due("image " + k, x.image(0, k), NONE);
        }
        C.due("none", x.image(7, 0), NONE);
        for (int b : new int[] {-1, 8, LEAST, MOST}) {
            C.due("block " + b, x.image(b, 0), REFUSED);
        }
        C.due("REFUSED before NONE", x.image(8, -1), REFUSED);
        C.due("crash", x.crash(-1), 1);
        C.due("while DOWN", x.image(0, 1), 2);
        C.due("while DOWN", x.image(0, 2), NONE);
    }

    private static void count() {
        BlockVault x = vault("19 count");
        writePair(x, 0, 1);
        C.due("put", x.put(2, 1, 1, 4, ALWAYS), 1);
        C.due("put", x.put(3, 1, 1, 0, ALWAYS), 1);
        C.due("remove", x.remove(3, true), 1);
        C.due("remove", x.remove(1, false), 1);
        C.due("compact", x.compact(12), 1);
        C.due("tick", x.tick(4), 4);
        int[] due = {1, 3, 1, 4, 6, 1, 1, 0};
        for (int what = 0; what < 8; what++) {
            C.due("count " + what, x.count(what), due[what]);
        }
        for (int what : new int[] {-1, 8, LEAST, MOST}) {
            C.due("count " + what, x.count(what), REFUSED);
        }
    }
}

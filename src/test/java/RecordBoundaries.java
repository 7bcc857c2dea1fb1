/** The boundary cases of promises 1 to 6: a new object, put, get, touch, remove, evict. */
final class RecordBoundaries {
    private static final int REFUSED = Sentences.REFUSED, DOWN = Sentences.DOWN, CONFLICT = Sentences.CONFLICT;
    private static final int NONE = Sentences.NONE, BUSY = Sentences.BUSY, FULL = Sentences.FULL;
    private static final long NOTHING = Sentences.NOTHING;
    private static final int LEAST = Sentences.LEAST, MOST = Sentences.MOST;
    private static final int ALWAYS = Sentences.ALWAYS;
    private static final int FREE = Sentences.FREE, CURRENT = Sentences.CURRENT, SEALED = Sentences.SEALED;

    private static final int[] NO_KEYS = {-1, 16, LEAST, MOST};
    private static final int[] NO_LIVES = {-1, 1001, LEAST, MOST};

    private final Sentences s;

    RecordBoundaries(Sentences s) {
        this.s = s;
    }

    void all() {
        s.each(
                this::newObject, this::putAppends, this::putGeneration, this::putVoidTime, this::putAlways,
                this::putIfNotThere, this::putIfThere, this::putIfGeneration, this::putKey, this::putSize,
                this::putLife, this::putRule, this::getThere, this::getNotThere, this::getNoKey, this::getDown,
                this::touchNotThere, this::touchVoidTime, this::touchAsPut, this::touchKey, this::touchLife,
                this::removeNotThere, this::removeLasting, this::removeNotLasting, this::removeKey, this::evictTimes,
                this::evictLeastVoidTime, this::evictLeastKey, this::evictTombstone, this::evictNone, this::evictBusy,
                this::evictFull, this::evictDown);
    }

    /** KEY 0 has no ENTRY, KEY 1 a TOMBSTONE, KEY 2 an EXPIRED RECORD of GENERATION 2, KEY 3 one that is THERE. */
    private static BlockVault kinds() {
        BlockVault x = new BlockVault();
        x.put(1, 101, 1, 0, ALWAYS);
        x.remove(1, true);
        x.put(2, 102, 1, 4, ALWAYS);
        x.put(2, 202, 1, 4, ALWAYS);
        x.put(3, 103, 1, 5, ALWAYS);
        x.put(3, 203, 1, 5, ALWAYS);
        x.tick(4);
        return x;
    }

    private void newObject() {
        s.promise(1, "No ENTRIES, all blocks FREE, not DOWN.");
        BlockVault x = new BlockVault();
        for (int key = 0; key < 16; key++) {
            s.due("entry " + key, x.entry(key, 0), NONE);
        }
        s.due("ENTRIES", x.count(1), 0);
        s.due("next", x.next(LEAST), NONE);
        s.due("rank", x.rank(MOST), 0);
        for (int b = 0; b < 8; b++) {
            s.block("block " + b, x, b, FREE, 0, 0, 0, 0);
        }
        s.due("DOWN", x.count(7), 0);
        s.due("start", x.start(), DOWN);
        s.due("seal", x.seal(), 0);
    }

    private void putAppends() {
        s.promise(2, "A RECORD is APPENDED:");
        BlockVault x = new BlockVault();
        s.due("put", x.put(6, 60, 4, 3, ALWAYS), 1);
        s.entry("a RECORD", x, 6, 1, 1, 3, 1, 4, 0, 0);
        s.block("its block", x, 0, CURRENT, 4, 4, 0, 0);
        s.changesNothing("BUSY", () -> Scenes.busy(0), y -> y.put(0, 9, 1, 1, ALWAYS), BUSY);
        s.changesNothing("FULL", () -> Scenes.full(0), y -> y.put(0, 9, 1, 1, ALWAYS), FULL);
    }

    private void putGeneration() {
        s.promise(2, "its GENERATION, one more than that of the RECORD if the KEY is THERE, else 1.");
        BlockVault x = kinds();
        s.due("no ENTRY", x.put(0, 1, 1, 0, ALWAYS), 1);
        s.due("TOMBSTONE", x.put(1, 1, 1, 0, ALWAYS), 1);
        s.due("EXPIRED", x.put(2, 1, 1, 0, ALWAYS), 1);
        s.due("THERE", x.put(3, 1, 1, 0, ALWAYS), 3);
        s.due("its ENTRY", x.entry(3, 1), 3);
        s.due("again", x.put(3, 1, 1, 0, ALWAYS), 4);
        s.due("after the EXPIRED one", x.put(2, 1, 1, 0, ALWAYS), 2);
        s.ok(x.remove(3, false));
        s.due("no ENTRY any more", x.put(3, 1, 1, 0, ALWAYS), 1);
    }

    private void putVoidTime() {
        s.promise(2, "Its VOID time is the CLOCK and life, or 0 for life 0.");
        BlockVault x = new BlockVault();
        s.ok(x.put(0, 1, 1, 0, ALWAYS), x.put(1, 1, 1, 1, ALWAYS), x.put(2, 1, 1, 1000, ALWAYS));
        s.due("life 0 at CLOCK 0", x.entry(0, 2), 0);
        s.due("life 1 at CLOCK 0", x.entry(1, 2), 1);
        s.due("life 1000 at CLOCK 0", x.entry(2, 2), 1000);
        s.ok(x.tick(7), x.put(0, 1, 1, 0, ALWAYS), x.put(1, 1, 1, 1, ALWAYS), x.put(2, 1, 1, 1000, ALWAYS));
        s.due("life 0 at CLOCK 7", x.entry(0, 2), 0);
        s.due("life 1 at CLOCK 7", x.entry(1, 2), 8);
        s.due("life 1000 at CLOCK 7, not of the VOID time before", x.entry(2, 2), 1007);
        s.ok(x.tick(1));
        s.due("life 0 does not end", x.get(0), 1);
        s.due("life 1 ends", x.get(1), NOTHING);
    }

    private void putAlways() {
        s.promise(2, "Rule -1: always;");
        BlockVault x = kinds();
        s.due("no ENTRY", x.put(0, 1, 1, 0, -1), 1);
        s.due("TOMBSTONE", x.put(1, 1, 1, 0, -1), 1);
        s.due("EXPIRED", x.put(2, 1, 1, 0, -1), 1);
        s.due("THERE", x.put(3, 1, 1, 0, -1), 3);
    }

    private void putIfNotThere() {
        s.promise(2, "-2: only if the KEY is not THERE;");
        BlockVault x = kinds();
        s.due("THERE", x.put(3, 1, 1, 0, -2), CONFLICT);
        s.due("its value", x.get(3), 203);
        s.due("no ENTRY", x.put(0, 1, 1, 0, -2), 1);
        s.due("TOMBSTONE", x.put(1, 1, 1, 0, -2), 1);
        s.due("EXPIRED", x.put(2, 1, 1, 0, -2), 1);
        s.due("THERE now", x.put(2, 1, 1, 0, -2), CONFLICT);
        s.ok(x.tick(1));
        s.due("EXPIRED now", x.put(3, 1, 1, 0, -2), 1);
    }

    private void putIfThere() {
        s.promise(2, "-3: only if it is THERE;");
        BlockVault x = kinds();
        s.due("no ENTRY", x.put(0, 1, 1, 0, -3), CONFLICT);
        s.due("TOMBSTONE", x.put(1, 1, 1, 0, -3), CONFLICT);
        s.due("EXPIRED", x.put(2, 1, 1, 0, -3), CONFLICT);
        s.due("THERE", x.put(3, 1, 1, 1, -3), 3);
        s.ok(x.tick(1));
        s.due("EXPIRED now", x.put(3, 1, 1, 0, -3), CONFLICT);
    }

    private void putIfGeneration() {
        s.promise(2, "0 or more: only if it is THERE with this GENERATION; else CONFLICT.");
        BlockVault x = kinds();
        for (int rule : new int[] {0, 1, 3, MOST}) {
            s.due("THERE with 2, rule " + rule, x.put(3, 1, 1, 0, rule), CONFLICT);
        }
        for (int rule : new int[] {0, 1, 2}) {
            s.due("no ENTRY, rule " + rule, x.put(0, 1, 1, 0, rule), CONFLICT);
            s.due("TOMBSTONE, rule " + rule, x.put(1, 1, 1, 0, rule), CONFLICT);
            s.due("EXPIRED with 2, rule " + rule, x.put(2, 1, 1, 0, rule), CONFLICT);
        }
        s.due("next STAMP", x.count(4), 7);
        s.due("THERE with 2, rule 2", x.put(3, 1, 1, 0, 2), 3);
        s.due("THERE with 3, rule 2", x.put(3, 1, 1, 0, 2), CONFLICT);
        s.due("THERE with 3, rule 3", x.put(3, 1, 1, 0, 3), 4);
    }

    private void putKey() {
        s.promise(2, "REFUSED if key is none,");
        for (int key : NO_KEYS) {
            s.changesNothing("put " + key, RecordBoundaries::kinds, x -> x.put(key, 1, 1, 0, ALWAYS), REFUSED);
        }
        BlockVault x = new BlockVault();
        s.due("KEY 0", x.put(0, 1, 1, 0, ALWAYS), 1);
        s.due("KEY 15", x.put(15, 1, 1, 0, ALWAYS), 1);
    }

    private void putSize() {
        s.promise(2, "size not 1..6,");
        for (int size : new int[] {0, 7, -1, 12, LEAST, MOST}) {
            s.changesNothing("SIZE " + size, RecordBoundaries::kinds, x -> x.put(0, 1, size, 0, ALWAYS), REFUSED);
        }
        BlockVault x = new BlockVault();
        s.due("SIZE 1", x.put(0, 1, 1, 0, ALWAYS), 1);
        s.due("SIZE 6", x.put(0, 1, 6, 0, ALWAYS), 2);
        s.due("SIZES", x.block(0, 2), 7);
    }

    private void putLife() {
        s.promise(2, "life not 0..1000,");
        for (int life : NO_LIVES) {
            s.changesNothing("life " + life, RecordBoundaries::kinds, x -> x.put(0, 1, 1, life, ALWAYS), REFUSED);
        }
        BlockVault x = new BlockVault();
        s.due("life 0", x.put(0, 1, 1, 0, ALWAYS), 1);
        s.due("life 1000", x.put(0, 1, 1, 1000, ALWAYS), 2);
    }

    private void putRule() {
        s.promise(2, "or rule below -3.");
        for (int rule : new int[] {-4, -5, LEAST}) {
            s.changesNothing("rule " + rule, RecordBoundaries::kinds, x -> x.put(3, 1, 1, 0, rule), REFUSED);
            s.changesNothing("rule " + rule, RecordBoundaries::kinds, x -> x.put(0, 1, 1, 0, rule), REFUSED);
        }
        s.due("rule -3", kinds().put(3, 1, 1, 0, -3), 3);
        s.due("the greatest rule", kinds().put(3, 1, 1, 0, MOST), CONFLICT);
    }

    private void getThere() {
        s.promise(3, "The value of a KEY that is THERE;");
        BlockVault x = new BlockVault();
        int[] values = {0, 1, -1, -6, LEAST, MOST};
        for (int i = 0; i < values.length; i++) {
            s.ok(x.put(15 - i, values[i], 1, 9, ALWAYS));
        }
        s.ok(x.tick(8));
        for (int i = 0; i < values.length; i++) {
            s.due("get " + (15 - i), x.get(15 - i), values[i]);
        }
        s.ok(x.put(15, 8, 1, 0, ALWAYS));
        s.due("the newest value", x.get(15), 8);
    }

    private void getNotThere() {
        s.promise(3, "NOTHING if it is not,");
        BlockVault x = kinds();
        s.due("no ENTRY", x.get(0), NOTHING);
        s.due("TOMBSTONE", x.get(1), NOTHING);
        s.due("EXPIRED", x.get(2), NOTHING);
        s.due("THERE", x.get(3), 203);
        s.ok(x.tick(1));
        s.due("EXPIRED now", x.get(3), NOTHING);
    }

    private void getNoKey() {
        s.promise(3, "key is none,");
        BlockVault x = Scenes.full(0);
        for (int key : NO_KEYS) {
            s.due("get " + key, x.get(key), NOTHING);
        }
        s.due("get 0", x.get(0), 100);
        s.due("get 15", x.get(15), 115);
    }

    private void getDown() {
        s.promise(3, "or the store is DOWN.");
        BlockVault x = Scenes.down();
        for (int key = 0; key < 4; key++) {
            s.due("get " + key, x.get(key), NOTHING);
        }
        s.due("key is none, too", x.get(16), NOTHING);
        s.ok(x.start());
        s.due("not DOWN", x.get(0), 100);
    }

    private void touchNotThere() {
        s.promise(4, "A KEY that is THERE (else NONE)");
        s.changesNothing("no ENTRY", RecordBoundaries::kinds, x -> x.touch(0, 5), NONE);
        s.changesNothing("TOMBSTONE", RecordBoundaries::kinds, x -> x.touch(1, 5), NONE);
        s.changesNothing("EXPIRED", RecordBoundaries::kinds, x -> x.touch(2, 5), NONE);
        s.due("THERE", kinds().touch(3, 5), 3);
        s.due("DOWN", Scenes.down().touch(0, 5), DOWN);
    }

    private void touchVoidTime() {
        s.promise(4, "gets another VOID time:");
        BlockVault x = kinds();
        s.ok(x.touch(3, 1));
        s.due("life 1 at CLOCK 4", x.entry(3, 2), 5);
        s.ok(x.touch(3, 1000));
        s.due("life 1000 at CLOCK 4", x.entry(3, 2), 1004);
        s.ok(x.touch(3, 0));
        s.due("life 0", x.entry(3, 2), 0);
        s.ok(x.tick(1000));
        s.due("it does not end", x.get(3), 203);
        s.ok(x.touch(3, 1), x.tick(1));
        s.due("it ends", x.get(3), NOTHING);
    }

    private void touchAsPut() {
        s.promise(4, "as by a put of its value and SIZE with this life: its GENERATION then.");
        BlockVault x = new BlockVault();
        s.ok(x.put(8, -9, 5, 3, ALWAYS));
        s.due("touch", x.touch(8, 7), 2);
        s.entry("APPENDED", x, 8, 1, 2, 7, 2, 5, 0, 1);
        s.due("its value", x.get(8), -9);
        s.block("the COPY before is LIVE no more", x, 0, CURRENT, 5, 10);
        s.due("touch", x.touch(8, 7), 3);
        s.entry("in another block", x, 8, 1, 3, 7, 3, 5, 1, 0);
        s.states("the first one is SEALED", x, SEALED, CURRENT);
        s.due("next STAMP", x.count(4), 4);
        s.changesNothing("BUSY", () -> Scenes.busy(3), y -> y.touch(0, 9), BUSY);
        s.changesNothing("FULL", () -> Scenes.full(3), y -> y.touch(0, 9), FULL);
    }

    private void touchKey() {
        s.promise(4, "REFUSED if key is none");
        for (int key : NO_KEYS) {
            s.changesNothing("touch " + key, RecordBoundaries::kinds, x -> x.touch(key, 0), REFUSED);
        }
        BlockVault x = Scenes.written(1, 0, 0, 15);
        s.due("KEY 0", x.touch(0, 0), 2);
        s.due("KEY 15", x.touch(15, 0), 2);
    }

    private void touchLife() {
        s.promise(4, "or life not 0..1000.");
        for (int life : NO_LIVES) {
            s.changesNothing("life " + life, RecordBoundaries::kinds, x -> x.touch(3, life), REFUSED);
            s.changesNothing("before NONE, life " + life, RecordBoundaries::kinds, x -> x.touch(0, life), REFUSED);
        }
        s.due("life 0", kinds().touch(3, 0), 3);
        s.due("life 1000", kinds().touch(3, 1000), 3);
    }

    private void removeNotThere() {
        s.promise(5, "A KEY that is THERE (else NONE) is THERE no more.");
        for (boolean lasting : new boolean[] {true, false}) {
            s.changesNothing("no ENTRY", RecordBoundaries::kinds, x -> x.remove(0, lasting), NONE);
            s.changesNothing("TOMBSTONE", RecordBoundaries::kinds, x -> x.remove(1, lasting), NONE);
            s.changesNothing("EXPIRED", RecordBoundaries::kinds, x -> x.remove(2, lasting), NONE);
            s.due("DOWN", Scenes.down().remove(0, lasting), DOWN);
            BlockVault x = kinds();
            s.due("THERE", x.remove(3, lasting), 1);
            s.due("no more", x.get(3), NOTHING);
            s.due("none is", x.count(0), 0);
            s.due("again", x.remove(3, lasting), NONE);
        }
    }

    private void removeLasting() {
        s.promise(5, "Lasting: a TOMBSTONE is APPENDED;");
        BlockVault x = Scenes.written(6, 0, 0, 1);
        s.due("remove", x.remove(0, true), 1);
        s.entry("a TOMBSTONE", x, 0, 2, 0, 0, 3, 1, 1, 0);
        s.due("next STAMP", x.count(4), 4);
        s.ok(x.seal(), x.flush(1), x.crash(-1));
        s.due("it lasts", x.start(), 1);
        s.due("not THERE", x.get(0), NOTHING);
        BlockVault z = Scenes.busy(0);
        s.ok(z.flush(1));
        s.due("1, whatever the block", z.remove(7, true), 1);
        s.due("its block", z.entry(7, 5), 4);
        s.changesNothing("BUSY", () -> Scenes.busy(0), y -> y.remove(0, true), BUSY);
        s.changesNothing("FULL", () -> Scenes.full(0), y -> y.remove(0, true), FULL);
        s.changesNothing("FULL", () -> Scenes.fullWithCurrent(0), y -> y.remove(0, true), FULL);
    }

    private void removeNotLasting() {
        s.promise(5, "else its ENTRY goes, and its COPY is LIVE no more: 1.");
        BlockVault x = Scenes.written(6, 0, 0, 1);
        s.due("remove", x.remove(0, false), 1);
        s.due("no ENTRY", x.entry(0, 0), NONE);
        s.due("ENTRIES", x.count(1), 1);
        s.due("USED", x.block(0, 1), 6);
        s.due("next STAMP", x.count(4), 3);
        s.ok(x.crash(-1));
        s.due("it does not last", x.start(), 2);
        s.due("THERE again", x.get(0), 100);
        s.due("where APPENDING is BUSY", Scenes.busy(0).remove(0, false), 1);
        s.due("where APPENDING is FULL", Scenes.full(0).remove(0, false), 1);
    }

    private void removeKey() {
        s.promise(5, "REFUSED if key is none.");
        for (int key : NO_KEYS) {
            s.changesNothing("lasting " + key, RecordBoundaries::kinds, x -> x.remove(key, true), REFUSED);
            s.changesNothing("not lasting " + key, RecordBoundaries::kinds, x -> x.remove(key, false), REFUSED);
        }
        BlockVault x = Scenes.written(1, 0, 0, 15);
        s.due("KEY 0", x.remove(0, false), 1);
        s.due("KEY 15", x.remove(15, false), 1);
    }

    /** All sixteen KEYS are THERE, the greatest with the least VOID time, in blocks 0 and 1. */
    private static BlockVault sixteen() {
        BlockVault x = new BlockVault();
        for (int key = 0; key < 16; key++) {
            x.put(key, 100 + key, 1, 40 - key, ALWAYS);
        }
        return x;
    }

    private void evictTimes() {
        s.promise(6, "Up to n (1..16, else REFUSED) times:");
        for (int n : new int[] {0, 17, -1, LEAST, MOST}) {
            s.changesNothing("evict " + n, RecordBoundaries::sixteen, x -> x.evict(n), REFUSED);
        }
        BlockVault x = sixteen();
        s.due("evict 1", x.evict(1), 1);
        s.due("THERE", x.count(0), 15);
        s.due("evict 2", x.evict(2), 2);
        s.due("THERE", x.count(0), 13);
        BlockVault y = sixteen();
        s.due("evict 16", y.evict(16), 16);
        s.due("THERE", y.count(0), 0);
        s.due("TOMBSTONES", y.count(2), 16);
        s.due("the first", y.entry(15, 3), 17);
        s.due("the last", y.entry(0, 3), 32);
    }

    private void evictLeastVoidTime() {
        s.promise(6, "the KEY that is THERE with the least VOID time above 0");
        BlockVault x = new BlockVault();
        s.ok(x.put(0, 1, 1, 0, ALWAYS), x.put(1, 1, 1, 2, ALWAYS), x.put(2, 1, 1, 9, ALWAYS));
        s.ok(x.put(3, 1, 1, 3, ALWAYS), x.put(4, 1, 1, 1, ALWAYS), x.remove(4, true), x.tick(2));
        s.due("evict", x.evict(1), 1);
        s.due("VOID time 3", x.entry(3, 0), 2);
        s.due("VOID time 0 never", x.entry(0, 0), 1);
        s.due("EXPIRED at 2 is not THERE", x.entry(1, 0), 1);
        s.due("VOID time 9 not yet", x.entry(2, 0), 1);
        s.due("the TOMBSTONE that was", x.entry(4, 3), 6);
        s.due("evict", x.evict(1), 1);
        s.due("VOID time 9", x.entry(2, 0), 2);
        s.due("evict", x.evict(1), 0);
        BlockVault y = Scenes.written(1, 1, 15);
        s.due("the least VOID time that can be, the greatest KEY", y.evict(1), 1);
        BlockVault z = new BlockVault();
        s.ok(z.put(3, 1, 1, 4, ALWAYS), z.put(5, 1, 1, 3, ALWAYS), z.put(8, 1, 1, 6, ALWAYS), z.evict(1));
        s.due("neither the least KEY nor the greatest", z.entry(5, 0), 2);
    }

    private void evictLeastKey() {
        s.promise(6, "(of several the least KEY)");
        BlockVault x = new BlockVault();
        s.ok(x.put(15, 1, 1, 5, ALWAYS), x.put(7, 1, 1, 5, ALWAYS), x.put(0, 1, 1, 5, ALWAYS));
        s.due("evict", x.evict(1), 1);
        s.due("KEY 0", x.entry(0, 0), 2);
        s.due("evict", x.evict(1), 1);
        s.due("KEY 7", x.entry(7, 0), 2);
        s.due("KEY 15 not yet", x.entry(15, 0), 1);
    }

    private void evictTombstone() {
        s.promise(6, "gets a TOMBSTONE APPENDED;");
        BlockVault x = Scenes.written(6, 5, 4, 5);
        s.due("evict", x.evict(16), 2);
        s.entry("the first", x, 4, 2, 0, 0, 3, 1, 1, 0);
        s.entry("the second", x, 5, 2, 0, 0, 4, 1, 1, 1);
        s.due("next STAMP", x.count(4), 5);
        s.block("the COPIES before are LIVE no more", x, 0, 4, 0, 0, 2, 1);
    }

    private void evictNone() {
        s.promise(6, "it is over when there is none,");
        s.due("of a new object", new BlockVault().evict(16), 0);
        BlockVault x = Scenes.written(1, 0, 0, 1);
        s.due("of such as have no VOID time", x.evict(16), 0);
        s.due("next STAMP", x.count(4), 3);
        s.due("of one that is THERE", kinds().evict(16), 1);
        BlockVault y = kinds();
        s.ok(y.tick(1));
        s.due("of EXPIRED ones", y.evict(16), 0);
    }

    private void evictBusy() {
        s.promise(6, "or by BUSY or FULL: how many.");
        s.changesNothing("BUSY at once", () -> Scenes.busy(5), x -> x.evict(16), 0);
        BlockVault x = new BlockVault();
        for (int key = 0; key < 7; key++) {
            s.ok(x.put(key, 1, 6, 5, ALWAYS));
        }
        s.ok(x.put(7, 1, 4, 5, ALWAYS));
        s.due("BUSY after two", x.evict(3), 2);
        s.due("TOMBSTONES", x.count(2), 2);
        s.due("THERE", x.count(0), 6);
        s.due("the third stays", x.entry(2, 0), 1);
        s.due("next STAMP", x.count(4), 11);
        s.due("BUSY at once", x.evict(1), 0);
    }

    private void evictFull() {
        s.promise(6, "by BUSY or FULL: how many.");
        s.changesNothing("FULL at once", () -> Scenes.full(5), x -> x.evict(16), 0);
        s.changesNothing("FULL with a CURRENT one", () -> Scenes.fullWithCurrent(5), x -> x.evict(16), 0);
        BlockVault x = new BlockVault();
        for (int b = 0; b < 7; b++) {
            Scenes.write(x, 6, 5, 2 * b, 2 * b + 1);
        }
        s.ok(x.put(14, 1, 6, 5, ALWAYS), x.put(15, 1, 5, 5, ALWAYS));
        s.due("FULL after one", x.evict(16), 1);
        s.due("TOMBSTONES", x.count(2), 1);
        s.due("THERE", x.count(0), 15);
        s.due("the CURRENT one is not SEALED", x.block(7, 0), CURRENT);
    }

    private void evictDown() {
        s.promise(6, "DOWN.");
        s.changesNothing("evict", Scenes::down, x -> x.evict(1), DOWN);
        s.due("REFUSED first", Scenes.down().evict(0), REFUSED);
        s.due("REFUSED first", Scenes.down().evict(17), REFUSED);
    }
}

/**
 * A store of records with an index in memory and their bodies in blocks of a device.
 * The words in capitals are those of the document's terms.
 */
public final class BlockVault {
    public static final int REFUSED = -1, DOWN = -2, CONFLICT = -3, NONE = -4, BUSY = -5, FULL = -6;
    public static final long NOTHING = 1L << 40;

    private static final int KEYS = 16;
    private static final int BLOCKS = 8;
    private static final int CAPACITY = 12;
    private static final int MOST_SIZE = 6;
    private static final int MOST_LIFE = 1000;
    private static final int MOST_TICK = 1000;
    private static final int MOST_SEALED = 3;
    private static final int TOMBSTONE_SIZE = 1;

    private static final int RULE_ALWAYS = -1, RULE_NOT_THERE = -2, RULE_THERE = -3;
    private static final int FREE = 0, CURRENT = 1, SEALED = 2, WRITTEN = 3, EMPTIED = 4;
    private static final int NO_BLOCK = -1, NO_KEY = -1, NO_TORN_WRITE = -1;

    private final Block[] blocks = new Block[BLOCKS];
    private final Entry[] index = new Entry[KEYS];
    private int clock = 0;
    private int nextStamp = 1;
    private int seals = 0;
    private int blocksWritten = 0;
    private int copiesMoved = 0;
    private boolean down = false;

    public BlockVault() {
        for (int b = 0; b < BLOCKS; b++) {
            blocks[b] = new Block();
        }
        for (int key = 0; key < KEYS; key++) {
            index[key] = new Entry();
        }
    }

    public int put(int key, int value, int size, int life, int rule) {
        if (!isKey(key) || size < 1 || size > MOST_SIZE || !isLife(life) || rule < RULE_THERE) {
            return REFUSED;
        }
        if (down) {
            return DOWN;
        }
        if (!ruleHolds(key, rule)) {
            return CONFLICT;
        }
        return writeRecord(key, value, size, life);
    }

    public long get(int key) {
        if (!isKey(key) || !isThere(key)) {
            return NOTHING;
        }
        return index[key].copy.value;
    }

    public int touch(int key, int life) {
        if (!isKey(key) || !isLife(life)) {
            return REFUSED;
        }
        if (down) {
            return DOWN;
        }
        if (!isThere(key)) {
            return NONE;
        }
        Copy copy = index[key].copy;
        return writeRecord(key, copy.value, copy.size, life);
    }

    public int remove(int key, boolean lasting) {
        if (!isKey(key)) {
            return REFUSED;
        }
        if (down) {
            return DOWN;
        }
        if (!isThere(key)) {
            return NONE;
        }
        if (!lasting) {
            dropEntry(key);
            return 1;
        }
        int home = writeTombstone(key);
        return home < 0 ? home : 1;
    }

    public int evict(int n) {
        if (n < 1 || n > KEYS) {
            return REFUSED;
        }
        if (down) {
            return DOWN;
        }
        int evicted = 0;
        while (evicted < n) {
            int key = firstToExpire();
            if (key == NO_KEY || writeTombstone(key) < 0) {
                break;
            }
            evicted++;
        }
        return evicted;
    }

    public int tick(int n) {
        if (n < 0 || n > MOST_TICK) {
            return REFUSED;
        }
        clock += n;
        return clock;
    }

    public int sweep() {
        if (down) {
            return DOWN;
        }
        int swept = 0;
        for (int key = 0; key < KEYS; key++) {
            if (isNeedless(key)) {
                dropEntry(key);
                swept++;
            }
        }
        return swept;
    }

    public int seal() {
        if (down) {
            return DOWN;
        }
        int current = leastInState(CURRENT);
        if (current == NO_BLOCK) {
            return 0;
        }
        if (countInState(SEALED) >= MOST_SEALED) {
            return BUSY;
        }
        sealBlock(current);
        return 1;
    }

    public int flush(int n) {
        if (n < 1 || n > MOST_SEALED) {
            return REFUSED;
        }
        if (down) {
            return DOWN;
        }
        int flushed = 0;
        while (flushed < n) {
            int b = longestSealed();
            if (b == NO_BLOCK) {
                break;
            }
            writeBlock(b);
            flushed++;
        }
        blocksWritten += flushed;
        return flushed;
    }

    public int compact(int limit) {
        if (limit < 1 || limit > CAPACITY) {
            return REFUSED;
        }
        if (down) {
            return DOWN;
        }
        int b = sparsestWritten(limit);
        if (b == NO_BLOCK) {
            return NONE;
        }
        int moved = moveLiveCopies(b);
        copiesMoved += moved;
        return moved;
    }

    public int crash(int k) {
        int torn = longestSealed();
        if (k != NO_TORN_WRITE && (torn == NO_BLOCK || k < 0 || k > blocks[torn].content.length)) {
            return REFUSED;
        }
        if (down) {
            return DOWN;
        }
        if (k != NO_TORN_WRITE) {
            blocks[torn].device.takeFirst(k, blocks[torn].content);
        }
        loseMemory();
        down = true;
        return 1;
    }

    public int start() {
        if (!down) {
            return DOWN;
        }
        down = false;
        nameNewestCopies();
        dropExpiredFound();
        reopenBlocks();
        nextStamp = greatestStamp() + 1;
        return countThere();
    }

    public int entry(int key, int what) {
        if (!isKey(key) || what < 0 || what > 6) {
            return REFUSED;
        }
        if (down) {
            return DOWN;
        }
        Entry found = index[key];
        if (found.copy == null) {
            return NONE;
        }
        switch (what) {
            case 0: return found.copy.tombstone ? 2 : 1;
            case 1: return found.copy.generation;
            case 2: return found.copy.voidTime;
            case 3: return found.copy.stamp;
            case 4: return found.copy.size;
            case 5: return found.home;
            default: return found.place;
        }
    }

    public int next(int key) {
        if (down) {
            return DOWN;
        }
        for (int k = 0; k < KEYS; k++) {
            if (k > key && index[k].copy != null) {
                return k;
            }
        }
        return NONE;
    }

    public int rank(int key) {
        if (down) {
            return DOWN;
        }
        int below = 0;
        for (int k = 0; k < KEYS; k++) {
            if (k < key && index[k].copy != null) {
                below++;
            }
        }
        return below;
    }

    public int block(int b, int what) {
        if (!isBlock(b)) {
            return REFUSED;
        }
        switch (what) {
            case 0: return blocks[b].state;
            case 1: return used(b);
            case 2: return blocks[b].content.sizes();
            case 3: return blocks[b].device.length;
            case 4: return Integer.bitCount(blocks[b].waits);
            default: return REFUSED;
        }
    }

    public int image(int b, int k) {
        if (!isBlock(b)) {
            return REFUSED;
        }
        Copy copy = blocks[b].device.at(k);
        return copy == null ? NONE : copy.stamp;
    }

    public int count(int what) {
        switch (what) {
            case 0: return countThere();
            case 1: return countEntries();
            case 2: return countTombstones();
            case 3: return clock;
            case 4: return down ? 0 : nextStamp;
            case 5: return blocksWritten;
            case 6: return copiesMoved;
            case 7: return down ? 1 : 0;
            default: return REFUSED;
        }
    }

    private static boolean isKey(int key) {
        return key >= 0 && key < KEYS;
    }

    private static boolean isBlock(int b) {
        return b >= 0 && b < BLOCKS;
    }

    private static boolean isLife(int life) {
        return life >= 0 && life <= MOST_LIFE;
    }

    private boolean isThere(int key) {
        Copy copy = index[key].copy;
        return copy != null && !copy.tombstone && !copy.isExpired(clock);
    }

    private boolean ruleHolds(int key, int rule) {
        boolean there = isThere(key);
        switch (rule) {
            case RULE_ALWAYS: return true;
            case RULE_NOT_THERE: return !there;
            case RULE_THERE: return there;
            default: return there && index[key].copy.generation == rule;
        }
    }

    private int writeRecord(int key, int value, int size, int life) {
        int generation = isThere(key) ? index[key].copy.generation + 1 : 1;
        int voidTime = life == 0 ? 0 : clock + life;
        int home = write(new Copy(key, value, size, generation, voidTime, nextStamp, false));
        return home < 0 ? home : generation;
    }

    private int writeTombstone(int key) {
        return write(new Copy(key, 0, TOMBSTONE_SIZE, 0, 0, nextStamp, true));
    }

    private int write(Copy copy) {
        int home = append(copy);
        if (home >= 0) {
            nextStamp++;
        }
        return home;
    }

    /** Answers the block that the COPY is in then, or BUSY or FULL. */
    private int append(Copy copy) {
        int home = currentWithRoom(copy.size);
        if (home < 0) {
            return home;
        }
        Row content = blocks[home].content;
        Entry named = index[copy.key];
        int left = named.home;
        content.add(copy);
        named.point(copy, home, content.length - 1);
        emptyIfDead(left);
        return home;
    }

    /** Answers the CURRENT block, another one if need be, or BUSY or FULL. */
    private int currentWithRoom(int size) {
        int current = leastInState(CURRENT);
        if (current != NO_BLOCK && blocks[current].content.sizes() + size <= CAPACITY) {
            return current;
        }
        if (current != NO_BLOCK && countInState(SEALED) >= MOST_SEALED) {
            return BUSY;
        }
        int free = leastInState(FREE);
        if (free == NO_BLOCK) {
            return FULL;
        }
        if (current != NO_BLOCK) {
            sealBlock(current);
        }
        blocks[free].state = CURRENT;
        return free;
    }

    private void sealBlock(int b) {
        blocks[b].state = SEALED;
        blocks[b].sealedAt = seals;
        seals++;
    }

    private void writeBlock(int b) {
        Block written = blocks[b];
        written.device.takeFirst(written.content.length, written.content);
        written.state = WRITTEN;
        endWaitsFor(b);
        emptyIfDead(b);
    }

    private void endWaitsFor(int b) {
        for (int w = 0; w < BLOCKS; w++) {
            blocks[w].waits &= ~(1 << b);
            freeIfWaitIsOver(w);
        }
    }

    private void emptyIfDead(int b) {
        if (!isBlock(b) || blocks[b].state != WRITTEN || hasLiveCopy(b)) {
            return;
        }
        blocks[b].content.clear();
        blocks[b].state = EMPTIED;
        blocks[b].waits = unwrittenBlocks();
        freeIfWaitIsOver(b);
    }

    private void freeIfWaitIsOver(int b) {
        if (blocks[b].state == EMPTIED && blocks[b].waits == 0) {
            blocks[b].state = FREE;
        }
    }

    private int unwrittenBlocks() {
        int set = 0;
        for (int b = 0; b < BLOCKS; b++) {
            if (blocks[b].state == CURRENT || blocks[b].state == SEALED) {
                set |= 1 << b;
            }
        }
        return set;
    }

    private void dropEntry(int key) {
        int left = index[key].home;
        index[key].forget();
        emptyIfDead(left);
    }

    private int firstToExpire() {
        int first = NO_KEY;
        for (int key = 0; key < KEYS; key++) {
            if (isThere(key) && index[key].copy.voidTime > 0
                    && (first == NO_KEY || index[key].copy.voidTime < index[first].copy.voidTime)) {
                first = key;
            }
        }
        return first;
    }

    private boolean isNeedless(int key) {
        Copy copy = index[key].copy;
        if (copy == null) {
            return false;
        }
        return copy.tombstone ? !hidesAnother(copy) : copy.isExpired(clock);
    }

    // Without its TOMBSTONE such a COPY could be found again by the next start.
    private boolean hidesAnother(Copy tombstone) {
        for (int b = 0; b < BLOCKS; b++) {
            if (blocks[b].content.hasOther(tombstone) || blocks[b].device.hasOther(tombstone)) {
                return true;
            }
        }
        return false;
    }

    private int sparsestWritten(int limit) {
        int sparsest = NO_BLOCK;
        int least = limit;
        for (int b = 0; b < BLOCKS; b++) {
            if (blocks[b].state == WRITTEN && used(b) < least) {
                sparsest = b;
                least = used(b);
            }
        }
        return sparsest;
    }

    // The CONTENT is gone as soon as the last LIVE COPY has left, so its length is read anew each time.
    private int moveLiveCopies(int b) {
        Row content = blocks[b].content;
        int moved = 0;
        for (int place = 0; place < CAPACITY && place < content.length; place++) {
            Copy copy = content.at(place);
            if (copy == null || !isLiveAt(copy, b, place)) {
                continue;
            }
            if (append(copy) < 0) {
                break;
            }
            moved++;
        }
        return moved;
    }

    private void loseMemory() {
        for (int key = 0; key < KEYS; key++) {
            index[key].forget();
        }
        for (int b = 0; b < BLOCKS; b++) {
            blocks[b].state = FREE;
            blocks[b].content.clear();
            blocks[b].waits = 0;
        }
    }

    // Only a greater STAMP displaces what was found, so of equal ones the first found stays.
    private void nameNewestCopies() {
        for (int b = 0; b < BLOCKS; b++) {
            Row device = blocks[b].device;
            for (int place = 0; place < device.length; place++) {
                Copy copy = device.at(place);
                if (copy != null && copy.isNewerThan(index[copy.key].copy)) {
                    index[copy.key].point(copy, b, place);
                }
            }
        }
    }

    // After the newest are known, not before: an EXPIRED one still hides the older ones of its KEY.
    private void dropExpiredFound() {
        for (int key = 0; key < KEYS; key++) {
            Copy copy = index[key].copy;
            if (copy != null && copy.isExpired(clock)) {
                index[key].forget();
            }
        }
    }

    private void reopenBlocks() {
        for (int b = 0; b < BLOCKS; b++) {
            if (hasLiveCopy(b)) {
                blocks[b].content.takeFirst(blocks[b].device.length, blocks[b].device);
                blocks[b].state = WRITTEN;
            }
        }
    }

    private int greatestStamp() {
        int greatest = 0;
        for (int b = 0; b < BLOCKS; b++) {
            greatest = Math.max(greatest, blocks[b].device.greatestStamp());
        }
        return greatest;
    }

    private int leastInState(int state) {
        for (int b = 0; b < BLOCKS; b++) {
            if (blocks[b].state == state) {
                return b;
            }
        }
        return NO_BLOCK;
    }

    private int countInState(int state) {
        int found = 0;
        for (int b = 0; b < BLOCKS; b++) {
            if (blocks[b].state == state) {
                found++;
            }
        }
        return found;
    }

    private int longestSealed() {
        int longest = NO_BLOCK;
        for (int b = 0; b < BLOCKS; b++) {
            if (blocks[b].state == SEALED
                    && (longest == NO_BLOCK || blocks[b].sealedAt < blocks[longest].sealedAt)) {
                longest = b;
            }
        }
        return longest;
    }

    private boolean hasLiveCopy(int b) {
        for (int key = 0; key < KEYS; key++) {
            if (index[key].home == b) {
                return true;
            }
        }
        return false;
    }

    // By place, not by STAMP: after a start several blocks may hold the same COPY, and one is meant.
    private boolean isLiveAt(Copy copy, int b, int place) {
        Entry named = index[copy.key];
        return named.home == b && named.place == place;
    }

    private int used(int b) {
        int sum = 0;
        for (int key = 0; key < KEYS; key++) {
            Entry named = index[key];
            if (named.copy != null && named.home == b) {
                sum += named.copy.size;
            }
        }
        return sum;
    }

    private int countThere() {
        int found = 0;
        for (int key = 0; key < KEYS; key++) {
            if (isThere(key)) {
                found++;
            }
        }
        return found;
    }

    private int countEntries() {
        int found = 0;
        for (int key = 0; key < KEYS; key++) {
            if (index[key].copy != null) {
                found++;
            }
        }
        return found;
    }

    private int countTombstones() {
        int found = 0;
        for (int key = 0; key < KEYS; key++) {
            if (index[key].copy != null && index[key].copy.tombstone) {
                found++;
            }
        }
        return found;
    }

    /** A RECORD or a TOMBSTONE. It never changes, so that CONTENTS and IMAGES may share it. */
    private static final class Copy {
        final int key;
        final int value;
        final int size;
        final int generation;
        final int voidTime;
        final int stamp;
        final boolean tombstone;

        Copy(int key, int value, int size, int generation, int voidTime, int stamp, boolean tombstone) {
            this.key = key;
            this.value = value;
            this.size = size;
            this.generation = generation;
            this.voidTime = voidTime;
            this.stamp = stamp;
            this.tombstone = tombstone;
        }

        boolean isExpired(int now) {
            return voidTime != 0 && voidTime <= now;
        }

        boolean isNewerThan(Copy other) {
            return other == null || stamp > other.stamp;
        }
    }

    /** A row of COPIES: a CONTENT or an IMAGE. As each has a SIZE of 1 or more, CAPACITY places are enough. */
    private static final class Row {
        private final Copy[] copies = new Copy[CAPACITY];
        int length = 0;

        Copy at(int place) {
            return place >= 0 && place < length ? copies[place] : null;
        }

        void add(Copy copy) {
            if (copy != null && length < CAPACITY) {
                copies[length] = copy;
                length++;
            }
        }

        void clear() {
            length = 0;
        }

        void takeFirst(int n, Row other) {
            clear();
            for (int place = 0; place < n && place < other.length; place++) {
                add(other.copies[place]);
            }
        }

        int sizes() {
            int sum = 0;
            for (int place = 0; place < length; place++) {
                sum += copies[place].size;
            }
            return sum;
        }

        int greatestStamp() {
            int greatest = 0;
            for (int place = 0; place < length; place++) {
                greatest = Math.max(greatest, copies[place].stamp);
            }
            return greatest;
        }

        boolean hasOther(Copy copy) {
            for (int place = 0; place < length; place++) {
                if (copies[place].key == copy.key && copies[place].stamp != copy.stamp) {
                    return true;
                }
            }
            return false;
        }
    }

    /** A block: its CONTENT in memory, and what the device holds of it, its IMAGE. */
    private static final class Block {
        final Row content = new Row();
        final Row device = new Row();
        int state = FREE;
        int sealedAt = 0;
        int waits = 0;
    }

    /** Where the COPY is that a KEY means; without a COPY there is no ENTRY. */
    private static final class Entry {
        Copy copy = null;
        int home = NO_BLOCK;
        int place = 0;

        void point(Copy named, int b, int at) {
            copy = named;
            home = b;
            place = at;
        }

        void forget() {
            point(null, NO_BLOCK, 0);
        }
    }
}

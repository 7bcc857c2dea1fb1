import java.util.ArrayDeque;
import java.util.ArrayList;
import java.util.Deque;
import java.util.HashSet;
import java.util.List;
import java.util.Map;
import java.util.Set;
import java.util.TreeMap;

/**
 * A second reading of the document, for comparison: other structures than BlockVault's, and the rules that hold
 * "as soon as" something is so are applied by looking at everything again after each change.
 */
final class VaultModel {
    private static final int REFUSED = -1, DOWN = -2, CONFLICT = -3, NONE = -4, BUSY = -5, FULL = -6;
    private static final long NOTHING = 1L << 40;

    private enum State { FREE, CURRENT, SEALED, WRITTEN, EMPTIED }

    private record Copy(boolean tombstone, int key, int value, int size, int generation, int voidTime, int stamp) {
    }

    /** A COPY at its place in a CONTENT; two of them are never the same place. */
    private static final class Slot {
        final Copy copy;
        final Filling filling;

        Slot(Copy copy, Filling filling) {
            this.copy = copy;
            this.filling = filling;
        }
    }

    /** A block from when it ceases to be FREE until it is FREE again. */
    private static final class Filling {
        final int block;
        final List<Slot> content = new ArrayList<>();
        final Set<Filling> waitsFor = new HashSet<>();
        State state;

        Filling(int block, State state) {
            this.block = block;
            this.state = state;
        }

        boolean isUnwritten() {
            return state == State.CURRENT || state == State.SEALED;
        }

        int sizes() {
            return content.stream().mapToInt(slot -> slot.copy.size).sum();
        }
    }

    private final TreeMap<Integer, Slot> entries = new TreeMap<>();
    private final TreeMap<Integer, Filling> fillings = new TreeMap<>();
    private final Deque<Filling> sealed = new ArrayDeque<>();
    private final List<List<Copy>> images = new ArrayList<>();
    private final Map<String, Integer> events;
    private int clock = 0;
    private int nextStamp = 1;
    private int flushed = 0;
    private int moved = 0;
    private boolean down = false;

    VaultModel(Map<String, Integer> events) {
        this.events = events;
        for (int b = 0; b < 8; b++) {
            images.add(List.of());
        }
    }

    private void happened(String event) {
        events.merge(event, 1, Integer::sum);
    }

    private static boolean within(int n, int least, int most) {
        return least <= n && n <= most;
    }

    private boolean expired(Copy copy) {
        return copy.voidTime != 0 && copy.voidTime <= clock;
    }

    private boolean there(int key) {
        Slot slot = entries.get(key);
        return slot != null && !slot.copy.tombstone && !expired(slot.copy);
    }

    private boolean live(Slot slot) {
        return entries.get(slot.copy.key) == slot;
    }

    private Filling current() {
        for (Filling filling : fillings.values()) {
            if (filling.state == State.CURRENT) {
                return filling;
            }
        }
        return null;
    }

    private void settle() {
        for (Filling filling : fillings.values()) {
            if (filling.state == State.WRITTEN && filling.content.stream().noneMatch(this::live)) {
                filling.state = State.EMPTIED;
                filling.content.clear();
                for (Filling other : fillings.values()) {
                    if (other.isUnwritten()) {
                        filling.waitsFor.add(other);
                    }
                }
                happened(filling.waitsFor.isEmpty() ? "free at once"
                        : filling.waitsFor.size() > 2 ? "emptied, waits for three or more" : "emptied, waits");
            }
            filling.waitsFor.removeIf(other -> !other.isUnwritten());
        }
        fillings.values().removeIf(filling -> filling.state == State.EMPTIED && filling.waitsFor.isEmpty());
    }

    private int append(Copy copy) {
        Filling current = current();
        if (current == null || current.sizes() + copy.size > 12) {
            if (current != null && sealed.size() == 3) {
                happened("BUSY");
                return BUSY;
            }
            if (fillings.size() == 8) {
                happened(current == null ? "FULL without a CURRENT block" : "FULL with a CURRENT block");
                return FULL;
            }
            if (current != null) {
                current.state = State.SEALED;
                sealed.addLast(current);
            }
            int b = 0;
            while (fillings.containsKey(b)) {
                b++;
            }
            current = new Filling(b, State.CURRENT);
            fillings.put(b, current);
        }
        Slot slot = new Slot(copy, current);
        current.content.add(slot);
        entries.put(copy.key, slot);
        settle();
        return 0;
    }

    private int write(Copy copy) {
        int answer = append(copy);
        nextStamp += answer == 0 ? 1 : 0;
        return answer;
    }

    private int bury(int key) {
        return write(new Copy(true, key, 0, 1, 0, 0, nextStamp));
    }

    int put(int key, int value, int size, int life, int rule) {
        if (!within(key, 0, 15) || !within(size, 1, 6) || !within(life, 0, 1000) || rule < -3) {
            return REFUSED;
        }
        if (down) {
            return DOWN;
        }
        int generation = there(key) ? entries.get(key).copy.generation : 0;
        boolean holds = rule == -1 || rule == -2 && generation == 0 || rule == -3 && generation > 0
                || rule > 0 && rule == generation;
        if (!holds) {
            return CONFLICT;
        }
        int voidTime = life == 0 ? 0 : clock + life;
        int answer = write(new Copy(false, key, value, size, generation + 1, voidTime, nextStamp));
        return answer == 0 ? generation + 1 : answer;
    }

    long get(int key) {
        return there(key) ? entries.get(key).copy.value : NOTHING;
    }

    int touch(int key, int life) {
        if (!within(key, 0, 15) || !within(life, 0, 1000)) {
            return REFUSED;
        }
        if (down) {
            return DOWN;
        }
        if (!there(key)) {
            return NONE;
        }
        Copy copy = entries.get(key).copy;
        return put(key, copy.value, copy.size, life, -1);
    }

    int remove(int key, boolean lasting) {
        if (!within(key, 0, 15)) {
            return REFUSED;
        }
        if (down) {
            return DOWN;
        }
        if (!there(key)) {
            return NONE;
        }
        if (lasting) {
            int answer = bury(key);
            return answer == 0 ? 1 : answer;
        }
        entries.remove(key);
        settle();
        return 1;
    }

    int evict(int n) {
        if (!within(n, 1, 16)) {
            return REFUSED;
        }
        if (down) {
            return DOWN;
        }
        for (int done = 0; done < n; done++) {
            Copy least = null;
            for (Slot slot : entries.values()) {
                if (there(slot.copy.key) && slot.copy.voidTime != 0
                        && (least == null || slot.copy.voidTime < least.voidTime)) {
                    least = slot.copy;
                }
            }
            if (least == null) {
                return done;
            }
            if (bury(least.key) != 0) {
                happened(done == 0 ? "evict stopped at once" : "evict stopped after some");
                return done;
            }
        }
        return n;
    }

    int tick(int n) {
        if (!within(n, 0, 1000)) {
            return REFUSED;
        }
        clock += n;
        return clock;
    }

    int sweep() {
        if (down) {
            return DOWN;
        }
        List<Integer> going = new ArrayList<>();
        for (Slot slot : entries.values()) {
            if (slot.copy.tombstone) {
                boolean alone = everywhere(slot.copy.key).stream().allMatch(copy -> copy.stamp == slot.copy.stamp);
                happened(alone ? "tombstone swept" : "tombstone kept");
                if (alone) {
                    going.add(slot.copy.key);
                }
            } else if (expired(slot.copy)) {
                happened("expired swept");
                going.add(slot.copy.key);
            }
        }
        going.forEach(entries::remove);
        settle();
        return going.size();
    }

    private List<Copy> everywhere(int key) {
        List<Copy> found = new ArrayList<>();
        fillings.values().forEach(filling -> filling.content.forEach(slot -> found.add(slot.copy)));
        images.forEach(found::addAll);
        found.removeIf(copy -> copy.key != key);
        return found;
    }

    int seal() {
        if (down) {
            return DOWN;
        }
        Filling current = current();
        if (current == null) {
            return 0;
        }
        if (sealed.size() == 3) {
            return BUSY;
        }
        current.state = State.SEALED;
        sealed.addLast(current);
        return 1;
    }

    private List<Copy> firstCopies(Filling filling, int n) {
        return filling.content.stream().limit(n).map(slot -> slot.copy).toList();
    }

    int flush(int n) {
        if (!within(n, 1, 3)) {
            return REFUSED;
        }
        if (down) {
            return DOWN;
        }
        int done = 0;
        while (done < n && !sealed.isEmpty()) {
            Filling filling = sealed.removeFirst();
            images.set(filling.block, firstCopies(filling, 12));
            filling.state = State.WRITTEN;
            settle();
            done++;
        }
        flushed += done;
        return done;
    }

    private int used(Filling filling) {
        return filling.content.stream().filter(this::live).mapToInt(slot -> slot.copy.size).sum();
    }

    int compact(int limit) {
        if (!within(limit, 1, 12)) {
            return REFUSED;
        }
        if (down) {
            return DOWN;
        }
        Filling chosen = null;
        for (Filling filling : fillings.values()) {
            if (filling.state == State.WRITTEN && used(filling) < limit
                    && (chosen == null || used(filling) < used(chosen))) {
                chosen = filling;
            }
        }
        if (chosen == null) {
            return NONE;
        }
        int done = 0;
        for (Slot slot : chosen.content.stream().filter(this::live).toList()) {
            if (append(slot.copy) != 0) {
                happened(done == 0 ? "compact stopped at once" : "compact stopped after some");
                break;
            }
            done++;
        }
        moved += done;
        return done;
    }

    int crash(int k) {
        if (k != -1 && (sealed.isEmpty() || !within(k, 0, sealed.getFirst().content.size()))) {
            return REFUSED;
        }
        if (down) {
            return DOWN;
        }
        if (k != -1) {
            happened(k == sealed.getFirst().content.size() ? "whole block written by a crash" : "torn block");
            images.set(sealed.getFirst().block, firstCopies(sealed.getFirst(), k));
        }
        entries.clear();
        fillings.clear();
        sealed.clear();
        down = true;
        return 1;
    }

    int start() {
        if (!down) {
            return DOWN;
        }
        down = false;
        List<List<Slot>> found = new ArrayList<>();
        nextStamp = 1;
        for (int b = 0; b < 8; b++) {
            Filling filling = new Filling(b, State.WRITTEN);
            for (Copy copy : images.get(b)) {
                filling.content.add(new Slot(copy, filling));
                nextStamp = Math.max(nextStamp, copy.stamp + 1);
            }
            fillings.put(b, filling);
            found.add(filling.content);
        }
        for (int key = 0; key < 16; key++) {
            nameNewest(key, found);
        }
        fillings.values().removeIf(filling -> filling.content.stream().noneMatch(this::live));
        return count(0);
    }

    private void nameNewest(int key, List<List<Slot>> found) {
        Slot newest = null;
        int seen = 0;
        for (List<Slot> slots : found) {
            for (Slot slot : slots) {
                if (slot.copy.key != key) {
                    continue;
                }
                seen++;
                if (newest != null && newest.copy.stamp == slot.copy.stamp) {
                    happened("a copy in several images");
                }
                if (newest == null || slot.copy.stamp > newest.copy.stamp) {
                    newest = slot;
                }
            }
        }
        if (newest == null) {
            return;
        }
        if (expired(newest.copy)) {
            happened(seen > 1 ? "an expired copy hides others" : "an expired copy found");
            return;
        }
        entries.put(key, newest);
    }

    int entry(int key, int what) {
        if (!within(key, 0, 15) || !within(what, 0, 6)) {
            return REFUSED;
        }
        if (down) {
            return DOWN;
        }
        Slot slot = entries.get(key);
        if (slot == null) {
            return NONE;
        }
        int[] all = {slot.copy.tombstone ? 2 : 1, slot.copy.generation, slot.copy.voidTime, slot.copy.stamp,
            slot.copy.size, slot.filling.block, slot.filling.content.indexOf(slot)};
        return all[what];
    }

    int next(int key) {
        if (down) {
            return DOWN;
        }
        Integer above = entries.higherKey(key);
        return above == null ? NONE : above;
    }

    int rank(int key) {
        return down ? DOWN : entries.headMap(key).size();
    }

    int block(int b, int what) {
        if (!within(b, 0, 7) || !within(what, 0, 4)) {
            return REFUSED;
        }
        if (what == 3) {
            return images.get(b).size();
        }
        Filling filling = fillings.get(b);
        if (filling == null) {
            return 0;
        }
        int[] all = {filling.state.ordinal(), used(filling), filling.sizes(), 0, filling.waitsFor.size()};
        return all[what];
    }

    int image(int b, int k) {
        if (!within(b, 0, 7)) {
            return REFUSED;
        }
        return within(k, 0, images.get(b).size() - 1) ? images.get(b).get(k).stamp : NONE;
    }

    int count(int what) {
        switch (what) {
            case 0: return (int) entries.keySet().stream().filter(this::there).count();
            case 1: return entries.size();
            case 2: return (int) entries.values().stream().filter(slot -> slot.copy.tombstone).count();
            case 3: return clock;
            case 4: return down ? 0 : nextStamp;
            case 5: return flushed;
            case 6: return moved;
            case 7: return down ? 1 : 0;
            default: return REFUSED;
        }
    }
}

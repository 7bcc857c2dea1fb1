import java.util.Arrays;
import java.util.Map;
import java.util.Random;
import java.util.TreeMap;

/** Many runs of calls, the same ones each time, with the answers of VaultModel as those that are due. */
public final class ModelTest {
    private static final int SHORT_RUNS = 6000, LONG_RUNS = 1500;
    private static final int MOST_CALLS = 512, SHORT_CALLS = 190;
    private static final String[] NAMES = {"put", "touch", "remove", "evict", "tick", "sweep", "seal", "flush",
        "compact", "crash", "start", "get", "entry", "next", "rank", "block", "image", "count"};
    private static final int PUT = 0, CRASH = 9, START = 10, CHANGING = 11;
    private static final int[] ODD = {-1, 0, 1, 16, 17, 1000, 1001, -2, -3, -4, 7, 8, 12, 13,
        Integer.MIN_VALUE, Integer.MAX_VALUE};

    /** What must have come about in the runs, or they would prove little. */
    private static final String[] EVENTS = {"BUSY", "FULL without a CURRENT block", "FULL with a CURRENT block",
        "free at once", "emptied, waits", "emptied, waits for three or more", "evict stopped at once",
        "evict stopped after some", "compact stopped at once", "compact stopped after some", "tombstone swept",
        "tombstone kept", "expired swept", "torn block", "whole block written by a crash",
        "a copy in several images", "an expired copy hides others", "an expired copy found"};

    private final Random random;
    private final int[] weights = new int[CHANGING];
    private final int keys;
    private final int mostSize;
    private final int mostLife;
    private final int mostTick;

    /** Each run has likings of its own, so that some fill the store, some keep it sparse, some crash often. */
    private ModelTest(long seed) {
        random = new Random(seed);
        int[] choice = {0, 1, 4, 12};
        for (int op = 0; op < CHANGING; op++) {
            weights[op] = choice[random.nextInt(4)];
        }
        weights[PUT] = 8 + 10 * random.nextInt(3);
        weights[CRASH] = random.nextInt(3);
        weights[START] = 1;
        keys = 2 + random.nextInt(15);
        mostSize = 1 + random.nextInt(6);
        mostLife = random.nextBoolean() ? 10 : 1000;
        mostTick = random.nextBoolean() ? 3 : 300;
    }

    public static void main(String[] args) {
        Checks checks = new Checks();
        Map<String, Integer> events = new TreeMap<>();
        for (int seed = 0; seed < SHORT_RUNS && !checks.hasWrong(); seed++) {
            checks.begin("short run " + seed);
            new ModelTest(seed).shortRun(checks, events);
        }
        for (int seed = 0; seed < LONG_RUNS && !checks.hasWrong(); seed++) {
            checks.begin("long run " + seed);
            new ModelTest(1000000 + seed).longRun(checks, events);
        }
        checks.begin("what came about");
        for (String event : EVENTS) {
            checks.dueTrue(event, events.getOrDefault(event, 0) >= 20);
        }
        checks.end();
    }

    /** Changes alone, and then all that can be seen: both together are at most 512 calls. */
    private void shortRun(Checks checks, Map<String, Integer> events) {
        BlockVault vault = new BlockVault();
        VaultModel model = new VaultModel(events);
        int calls = 1 + random.nextInt(SHORT_CALLS);
        for (int i = 0; i < calls && !checks.hasWrong(); i++) {
            compare(checks, vault, model, i, change(model));
        }
        compareAll(checks, vault, model);
    }

    private void longRun(Checks checks, Map<String, Integer> events) {
        BlockVault vault = new BlockVault();
        VaultModel model = new VaultModel(events);
        for (int i = 0; i < MOST_CALLS && !checks.hasWrong(); i++) {
            compare(checks, vault, model, i, random.nextInt(3) == 0 ? look() : change(model));
        }
    }

    private static void compare(Checks checks, BlockVault vault, VaultModel model, int i, int[] call) {
        checks.due("call " + i + " " + NAMES[call[0]] + Arrays.toString(Arrays.copyOfRange(call, 1, 6)),
                answer(vault, call), answer(model, call));
    }

    private static void compareAll(Checks checks, BlockVault vault, VaultModel model) {
        for (int what = 0; what < 8; what++) {
            compareEnd(checks, vault, model, 17, what, 0);
        }
        for (int key = 0; key < 16; key++) {
            compareEnd(checks, vault, model, 11, key, 0);
            compareEnd(checks, vault, model, 13, key - 1, 0);
            compareEnd(checks, vault, model, 14, key + 1, 0);
            for (int what = 0; what < 7; what++) {
                compareEnd(checks, vault, model, 12, key, what);
            }
        }
        for (int b = 0; b < 8; b++) {
            for (int what = 0; what < 5; what++) {
                compareEnd(checks, vault, model, 15, b, what);
            }
            int length = model.block(b, 3);
            for (int k = 0; k <= length; k++) {
                compareEnd(checks, vault, model, 16, b, k);
            }
        }
    }

    private static void compareEnd(Checks checks, BlockVault vault, VaultModel model, int op, int first, int second) {
        int[] call = {op, first, second, 0, 0, 0};
        checks.due("at the end " + NAMES[op] + " " + first + " " + second, answer(vault, call), answer(model, call));
    }

    private int[] change(VaultModel model) {
        int op = model.count(7) == 1 && random.nextInt(3) == 0 ? START : weighted();
        int[] call = {op, random.nextInt(keys), 0, 0, 0, 0};
        switch (NAMES[op]) {
            case "put":
                call[2] = random.nextInt(2000) - 1000;
                call[3] = 1 + random.nextInt(mostSize);
                call[4] = random.nextInt(3) == 0 ? 0 : random.nextInt(mostLife + 1);
                call[5] = random.nextInt(3) == 0 ? random.nextInt(6) - 3 : -1;
                break;
            case "touch": call[2] = random.nextInt(mostLife + 1); break;
            case "remove": call[2] = random.nextInt(2); break;
            case "evict": call[1] = 1 + random.nextInt(random.nextBoolean() ? 2 : 16); break;
            case "tick": call[1] = random.nextInt(mostTick + 1); break;
            case "flush": call[1] = 1 + random.nextInt(3); break;
            case "compact": call[1] = 1 + random.nextInt(12); break;
            case "crash": call[1] = random.nextInt(6) - 1; break;
            default: break;
        }
        return oddNowAndThen(call);
    }

    private int[] look() {
        int op = CHANGING + random.nextInt(NAMES.length - CHANGING);
        int[] call = {op, random.nextInt(16), random.nextInt(8), 0, 0, 0};
        if (NAMES[op].equals("block") || NAMES[op].equals("image") || NAMES[op].equals("count")) {
            call[1] = random.nextInt(8);
        }
        return oddNowAndThen(call);
    }

    private int[] oddNowAndThen(int[] call) {
        if (random.nextInt(25) == 0) {
            call[1 + random.nextInt(5)] = ODD[random.nextInt(ODD.length)];
        }
        return call;
    }

    private int weighted() {
        int left = random.nextInt(Arrays.stream(weights).sum());
        int op = 0;
        while (left >= weights[op]) {
            left -= weights[op];
            op++;
        }
        return op;
    }

    private static long answer(BlockVault x, int[] c) {
        switch (NAMES[c[0]]) {
            case "put": return x.put(c[1], c[2], c[3], c[4], c[5]);
            case "touch": return x.touch(c[1], c[2]);
            case "remove": return x.remove(c[1], c[2] != 0);
            case "evict": return x.evict(c[1]);
            case "tick": return x.tick(c[1]);
            case "sweep": return x.sweep();
            case "seal": return x.seal();
            case "flush": return x.flush(c[1]);
            case "compact": return x.compact(c[1]);
            case "crash": return x.crash(c[1]);
            case "start": return x.start();
            case "get": return x.get(c[1]);
            case "entry": return x.entry(c[1], c[2]);
            case "next": return x.next(c[1]);
            case "rank": return x.rank(c[1]);
            case "block": return x.block(c[1], c[2]);
            case "image": return x.image(c[1], c[2]);
            default: return x.count(c[1]);
        }
    }

    private static long answer(VaultModel x, int[] c) {
        switch (NAMES[c[0]]) {
            case "put": return x.put(c[1], c[2], c[3], c[4], c[5]);
            case "touch": return x.touch(c[1], c[2]);
            case "remove": return x.remove(c[1], c[2] != 0);
            case "evict": return x.evict(c[1]);
            case "tick": return x.tick(c[1]);
            case "sweep": return x.sweep();
            case "seal": return x.seal();
            case "flush": return x.flush(c[1]);
            case "compact": return x.compact(c[1]);
            case "crash": return x.crash(c[1]);
            case "start": return x.start();
            case "get": return x.get(c[1]);
            case "entry": return x.entry(c[1], c[2]);
            case "next": return x.next(c[1]);
            case "rank": return x.rank(c[1]);
            case "block": return x.block(c[1], c[2]);
            case "image": return x.image(c[1], c[2]);
            default: return x.count(c[1]);
        }
    }
}

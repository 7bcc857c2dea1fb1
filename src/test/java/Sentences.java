import java.io.IOException;
import java.util.Arrays;
import java.util.function.Supplier;
import java.util.function.ToLongFunction;

/** Tests that bear the words of the document that they hold the program to. */
final class Sentences {
    static final int REFUSED = -1, DOWN = -2, CONFLICT = -3, NONE = -4, BUSY = -5, FULL = -6;
    static final long NOTHING = 1099511627776L;
    static final int LEAST = Integer.MIN_VALUE, MOST = Integer.MAX_VALUE;
    static final int ALWAYS = -1, IF_NOT_THERE = -2, IF_THERE = -3;
    static final int FREE = 0, CURRENT = 1, SEALED = 2, WRITTEN = 3, EMPTIED = 4;

    private final Checks checks = new Checks();
    private final Document document;

    Sentences() throws IOException {
        document = new Document();
    }

    /** One that throws is wrong, and the others are made all the same. */
    void each(Runnable... tests) {
        for (Runnable test : tests) {
            try {
                test.run();
            } catch (RuntimeException thrown) {
                checks.dueTrue("no call throws, but: " + thrown, false);
            }
        }
    }

    void terms(String words) {
        begin("Terms", words);
    }

    void promise(int number, String words) {
        begin("Promise " + number, words);
    }

    void begin(String part, String words) {
        checks.begin(part + " '" + words + "'");
        checks.dueTrue("these words stand in the document", document.has(part, words));
    }

    void due(String call, long got, long want) {
        checks.due(call, got, want);
    }

    /** Calls that only lead to what is tested: none of them may be refused. */
    void ok(int... answers) {
        checks.dueTrue("nothing is refused in " + Arrays.toString(answers),
                Arrays.stream(answers).allMatch(answer -> answer >= 0));
    }

    void states(String when, BlockVault x, int... want) {
        for (int b = 0; b < want.length; b++) {
            checks.due(when + ": STATE of block " + b, x.block(b, 0), want[b]);
        }
    }

    void entry(String when, BlockVault x, int key, int... want) {
        for (int what = 0; what < want.length; what++) {
            checks.due(when + ": entry(" + key + ", " + what + ")", x.entry(key, what), want[what]);
        }
    }

    void block(String when, BlockVault x, int b, int... want) {
        for (int what = 0; what < want.length; what++) {
            checks.due(when + ": block(" + b + ", " + what + ")", x.block(b, what), want[what]);
        }
    }

    /** The call answers this code, and its object is then as one on which it was not made. */
    void changesNothing(String name, Supplier<BlockVault> scene, ToLongFunction<BlockVault> call, long want) {
        BlockVault called = scene.get();
        BlockVault other = scene.get();
        checks.due(name, call.applyAsLong(called), want);
        View seen = new View(called);
        View left = new View(other);
        checks.dueTrue(name + " changes nothing, but: " + seen.difference(left), seen.difference(left).isEmpty());
    }

    void end() {
        for (String part : document.parts()) {
            checks.begin(part);
            checks.dueTrue("all is quoted by a test, but: " + document.unquoted(part),
                    document.unquoted(part).isEmpty());
        }
        checks.end();
    }
}

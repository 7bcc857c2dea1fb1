import java.io.File;
import java.io.IOException;
import java.lang.reflect.Method;
import java.nio.file.Files;
import java.nio.file.Path;
import java.util.ArrayList;
import java.util.Arrays;
import java.util.List;
import java.util.Set;
import java.util.TreeSet;
import java.util.function.Supplier;
import java.util.regex.Matcher;
import java.util.regex.Pattern;

/** What README.md says of the class and of its tests. */
public final class ReadmeTest {
    private static final Path README = Path.of("README.md"), DOCUMENT = Path.of("../shared/DOC.md");
    private static final String[] CODES = {"REFUSED", "DOWN", "CONFLICT", "NONE", "BUSY", "FULL"};
    private static final Object[] NUMBERS = {-1, 0, 1, 12}, TRUTHS = {false, true};

    private static final Checks C = new Checks();
    private static final List<Supplier<BlockVault>> SCENES = List.of(BlockVault::new, () -> Scenes.written(1, 0, 0),
            () -> Scenes.busy(0), () -> Scenes.busy(5), () -> Scenes.full(0), () -> Scenes.full(5),
            () -> Scenes.fullWithCurrent(5), Scenes::down);

    public static void main(String[] args) throws IOException, ReflectiveOperationException {
        String readme = Files.readString(README);
        example(readme);
        calls(readme);
        constants(readme);
        tests(readme);
        C.end();
    }

    private static void example(String readme) throws ReflectiveOperationException {
        C.begin("README.md, the example");
        BlockVault vault = new BlockVault();
        Matcher line = Pattern.compile("(?m)^vault\\.(\\w+)\\((.*)\\); +// (-?\\w+)").matcher(readme);
        int found = 0;
        while (line.find()) {
            Method method = named(line.group(1));
            String[] words = line.group(2).isEmpty() ? new String[0] : line.group(2).split(", ");
            C.due(line.group(), answer(vault, method, arguments(method, words)), number(line.group(3)));
            found++;
        }
        C.due("lines with an answer", found, readme.lines().filter(text -> text.startsWith("vault.")).count());
        C.dueTrue("it has lines", found > 0);
    }

    /** Each call of the document's face has its row, whose last column has the constants that it may answer. */
    private static void calls(String readme) throws IOException, ReflectiveOperationException {
        C.begin("README.md, the calls");
        Matcher face = Pattern.compile("(?m)^    public (?:int|long) (\\w+)\\((.*)\\);")
                .matcher(Files.readString(DOCUMENT));
        int found = 0;
        while (face.find()) {
            String call = face.group(1) + "(" + face.group(2).replaceAll("(int|boolean) ", "") + ")";
            Matcher row = Pattern.compile("(?m)^\\| `" + Pattern.quote(call) + "` \\|.*\\|([^|]*)\\|$").matcher(readme);
            boolean stands = row.find();
            C.dueTrue("a row of " + call, stands);
            String last = stands ? row.group(1).replace("`", "").trim() : "";
            Set<String> told = new TreeSet<>(Arrays.asList(last.split(" ")));
            Set<String> answered = constantsOf(named(face.group(1)));
            C.dueTrue(call + " may answer " + answered + ", not " + told, answered.equals(told));
            found++;
        }
        C.due("calls", found, 18);
        C.due("rows", readme.lines().filter(text -> text.startsWith("| `")).count(), found);
    }

    private static Set<String> constantsOf(Method method) throws ReflectiveOperationException {
        Set<String> answered = new TreeSet<>();
        for (Supplier<BlockVault> scene : SCENES) {
            for (Object[] arguments : allArguments(method)) {
                long answer = answer(scene.get(), method, arguments);
                if (method.getName().equals("get")) {
                    answered.addAll(answer == number("NOTHING") ? Set.of("NOTHING") : Set.of());
                } else if (answer < 0) {
                    answered.add(CODES[(int) (-1 - answer)]);
                }
            }
        }
        return answered;
    }

    private static void constants(String readme) throws ReflectiveOperationException {
        C.begin("README.md, the constants");
        for (String name : CODES) {
            C.dueTrue(name, readme.contains("\n- `" + name + "` " + number(name) + ": "));
        }
        C.dueTrue("NOTHING", readme.contains("\n- `NOTHING` " + number("NOTHING") + ": "));
    }

    private static void tests(String readme) {
        C.begin("README.md, the tests");
        for (String file : new File("src/test/java").list()) {
            if (file.endsWith("Test.java")) {
                C.dueTrue(file, readme.contains("\n- `" + file.replace(".java", "") + "`: "));
            }
        }
        C.dueTrue(".ci/run", readme.contains("\n.ci/run\n") && new File(".ci/run").canExecute());
    }

    private static Method named(String name) {
        return Arrays.stream(BlockVault.class.getMethods()).filter(method -> method.getName().equals(name))
                .findFirst().orElseThrow();
    }

    private static long answer(BlockVault x, Method method, Object[] arguments) throws ReflectiveOperationException {
        return ((Number) method.invoke(x, arguments)).longValue();
    }

    /** A number, or the constant of this name. */
    private static long number(String word) throws ReflectiveOperationException {
        return word.matches("-?\\d+") ? Long.parseLong(word)
                : ((Number) BlockVault.class.getField(word).get(null)).longValue();
    }

    private static Object[] arguments(Method method, String[] words) {
        Object[] all = new Object[words.length];
        for (int i = 0; i < words.length; i++) {
            all[i] = method.getParameterTypes()[i] == boolean.class ? (Object) Boolean.valueOf(words[i])
                    : (Object) Integer.valueOf(words[i]);
        }
        return all;
    }

    private static List<Object[]> allArguments(Method method) {
        List<Object[]> all = new ArrayList<>();
        all.add(new Object[0]);
        for (Class<?> type : method.getParameterTypes()) {
            List<Object[]> longer = new ArrayList<>();
            for (Object[] some : all) {
                for (Object next : type == boolean.class ? TRUTHS : NUMBERS) {
                    Object[] more = Arrays.copyOf(some, some.length + 1);
                    more[some.length] = next;
                    longer.add(more);
                }
            }
            all = longer;
        }
        return all;
    }
}

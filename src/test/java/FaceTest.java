import java.io.IOException;
import java.lang.reflect.Constructor;
import java.lang.reflect.Field;
import java.lang.reflect.Method;
import java.lang.reflect.Modifier;
import java.nio.file.Files;
import java.nio.file.Path;
import java.util.Arrays;
import java.util.Set;
import java.util.TreeSet;
import java.util.regex.Pattern;

/** The public face, and the words that ../shared/LANGUAGE.md leaves no room for. */
public final class FaceTest {
    private static final Path SOURCE = Path.of("src/main/java/BlockVault.java");
    private static final Set<String> METHODS = new TreeSet<>(Set.of(
            "int put(int, int, int, int, int)", "long get(int)", "int touch(int, int)", "int remove(int, boolean)",
            "int evict(int)", "int tick(int)", "int sweep()", "int seal()", "int flush(int)", "int compact(int)",
            "int crash(int)", "int start()", "int entry(int, int)", "int next(int)", "int rank(int)",
            "int block(int, int)", "int image(int, int)", "int count(int)"));
    private static final Set<String> CONSTANTS = new TreeSet<>(Set.of("int REFUSED", "int DOWN", "int CONFLICT",
            "int NONE", "int BUSY", "int FULL", "long NOTHING"));
    private static final String[] WORDS_OUT = {"package", "import", "throw", "throws", "try", "catch", "finally",
        "synchronized", "assert", "volatile", "native", "protected", "Object", "System\\.out", "Random", "Thread",
        "hashCode", "toString", "equals", "var"};

    private static final Checks C = new Checks();

    public static void main(String[] args) throws IOException {
        face();
        nestedClasses();
        words();
        C.end();
    }

    private static void face() {
        C.begin("face");
        int modifiers = BlockVault.class.getModifiers();
        C.dueTrue("public and final", Modifier.isPublic(modifiers) && Modifier.isFinal(modifiers));
        Set<String> methods = new TreeSet<>();
        Set<String> publicNames = new TreeSet<>();
        for (Method method : BlockVault.class.getDeclaredMethods()) {
            if (!Modifier.isPrivate(method.getModifiers())) {
                methods.add(signature(method));
                publicNames.add(method.getName());
                C.dueTrue("public: " + method, Modifier.isPublic(method.getModifiers()));
            }
        }
        C.dueTrue("methods: " + methods, methods.equals(METHODS));
        for (Method method : BlockVault.class.getDeclaredMethods()) {
            C.dueTrue("no public name: " + method, !Modifier.isPrivate(method.getModifiers())
                    || !publicNames.contains(method.getName()));
        }
        Set<String> constants = new TreeSet<>();
        for (Field field : BlockVault.class.getDeclaredFields()) {
            C.dueTrue("static is final: " + field,
                    !Modifier.isStatic(field.getModifiers()) || Modifier.isFinal(field.getModifiers()));
            if (!Modifier.isPrivate(field.getModifiers())) {
                constants.add(field.getType() + " " + field.getName());
                C.dueTrue("public static: " + field,
                        Modifier.isPublic(field.getModifiers()) && Modifier.isStatic(field.getModifiers()));
            }
        }
        C.dueTrue("constants: " + constants, constants.equals(CONSTANTS));
        Constructor<?>[] constructors = BlockVault.class.getDeclaredConstructors();
        C.dueTrue("one public constructor without arguments", constructors.length == 1
                && constructors[0].getParameterCount() == 0 && Modifier.isPublic(constructors[0].getModifiers()));
    }

    private static String signature(Method method) {
        String arguments = Arrays.toString(method.getParameterTypes());
        return method.getReturnType() + " " + method.getName()
                + "(" + arguments.substring(1, arguments.length() - 1) + ")";
    }

    private static void nestedClasses() {
        C.begin("classes inside");
        for (Class<?> inside : BlockVault.class.getDeclaredClasses()) {
            int modifiers = inside.getModifiers();
            C.dueTrue("static and not public: " + inside,
                    Modifier.isStatic(modifiers) && !Modifier.isPublic(modifiers));
            for (Method method : inside.getDeclaredMethods()) {
                C.dueTrue("at most seven parameters: " + method, method.getParameterCount() <= 7);
            }
        }
    }

    private static void words() throws IOException {
        C.begin("words");
        String code = Files.readString(SOURCE).replaceAll("(?s)/\\*.*?\\*/", "").replaceAll("//[^\n]*", "");
        for (String word : WORDS_OUT) {
            C.dueTrue("without " + word, !Pattern.compile("\\b" + word + "\\b").matcher(code).find());
        }
        C.dueTrue("without lambdas and method references", !code.contains("->") && !code.contains("::"));
    }
}

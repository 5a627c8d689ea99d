import java.io.IOException;
import java.lang.management.ManagementFactory;
import java.lang.reflect.Constructor;
import java.lang.reflect.Field;
import java.lang.reflect.Method;
import java.lang.reflect.Modifier;
import java.nio.file.Files;
import java.nio.file.Path;
import java.util.ArrayList;
import java.util.Arrays;
import java.util.HashSet;
import java.util.List;
import java.util.Set;
import java.util.TreeSet;

/** The public face, the rules of LANGUAGE.md that can be seen from here, and the room of calls. */
public final class FaceTest {
    private static final Set<String> FACE = Set.of("boolean add(int, int, int, int)",
            "boolean drop()", "void clear()", "boolean base(int)", "boolean measure(int)",
            "int length()", "int paragraphLevel()", "int match(int)", "int partner(int)",
            "int type(int)", "int level(int)", "boolean mayBreak(int)", "int lines()",
            "int start(int)", "int extent(int)", "int shownLevel(int)", "int shown(int, int)",
            "boolean mirrored(int)");
    private static final String[] REFUSED = {"\\bthrow\\b", "\\btry\\b", "\\bcatch\\b",
        "\\bsynchronized\\b", "\\bassert\\b", "->", "::", "\\bimport\\b", "\\bpackage\\b",
        "\\bSystem\\b", "\\bnew [A-Z]\\w*\\([^)]*\\)\\s*\\{"};
    private static final Check CHECK = new Check();

    private FaceTest() {
    }

    public static void main(String[] args) throws IOException {
        face();
        classesInside();
        source(Path.of(args.length > 0 ? args[0] : "."));
        room();
        CHECK.end();
    }

    private static String signature(Method method) {
        List<String> parameters = new ArrayList<>();
        for (Class<?> parameter : method.getParameterTypes()) {
            parameters.add(parameter.getSimpleName());
        }
        return method.getReturnType().getSimpleName() + " " + method.getName() + "("
                + String.join(", ", parameters) + ")";
    }

    private static void face() {
        Class<?> face = TwoWayLines.class;
        CHECK.due("the class is public and final", face.getModifiers(),
                Modifier.PUBLIC | Modifier.FINAL);
        Set<String> methods = new TreeSet<>();
        for (Method method : face.getDeclaredMethods()) {
            if (!Modifier.isPrivate(method.getModifiers())) {
                methods.add(signature(method));
                CHECK.due(method + " is public alone", method.getModifiers(), Modifier.PUBLIC);
            }
        }
        CHECK.due("the methods", methods, new TreeSet<>(FACE));
        Constructor<?>[] constructors = face.getDeclaredConstructors();
        CHECK.due("constructors", constructors.length, 1);
        CHECK.due("its parameters", constructors[0].getParameterCount(), 0);
        CHECK.due("it is public", constructors[0].getModifiers(), Modifier.PUBLIC);
        for (Field field : face.getDeclaredFields()) {
            boolean constant = field.getName().equals("NONE");
            CHECK.due(field + " is public", Modifier.isPublic(field.getModifiers()), constant);
            CHECK.due(field + " is private", Modifier.isPrivate(field.getModifiers()), !constant);
        }
        CHECK.due("NONE", TwoWayLines.NONE, -1);
    }

    private static void classesInside() {
        List<Class<?>> classes = new ArrayList<>(
                Arrays.asList(TwoWayLines.class.getDeclaredClasses()));
        CHECK.due("at most twelve classes", classes.size() < 12, true);
        for (Class<?> inside : classes) {
            CHECK.due(inside + " is static", Modifier.isStatic(inside.getModifiers()), true);
            CHECK.due(inside + " is public", Modifier.isPublic(inside.getModifiers()), false);
        }
        Set<String> names = new HashSet<>();
        for (String signature : FACE) {
            names.add(signature.substring(signature.indexOf(' ') + 1, signature.indexOf('(')));
        }
        classes.add(TwoWayLines.class);
        for (Class<?> one : classes) {
            int fields = 0;
            for (Field field : one.getDeclaredFields()) {
                boolean fixed = Modifier.isFinal(field.getModifiers());
                boolean shared = Modifier.isStatic(field.getModifiers());
                CHECK.due(field + " is final or not static", fixed || !shared, true);
                fields += shared ? 0 : 1;
            }
            CHECK.due(one + " has at most twenty fields", fields <= 20, true);
            for (Method method : one.getDeclaredMethods()) {
                boolean open = Modifier.isPublic(method.getModifiers());
                CHECK.due(method + " has a name of its own",
                        open || !names.contains(method.getName()), true);
                CHECK.due(method + " has at most seven parameters",
                        method.getParameterCount() <= 7, true);
                CHECK.due(method + " is no lambda", method.isSynthetic(), false);
            }
        }
    }

    private static void source(Path root) throws IOException {
        String text = Files.readString(root.resolve("src/main/java/TwoWayLines.java"));
        String code = text.replaceAll("(?s)/\\*.*?\\*/", "").replaceAll("//[^\n]*", "");
        for (String refused : REFUSED) {
            CHECK.due("the code has " + refused,
                    code.matches("(?s).*" + refused + ".*"), false);
        }
    }

    /** Calls make no objects: what is allocated over very many of them is next to nothing. */
    private static void room() {
        TwoWayLines x = new TwoWayLines();
        com.sun.management.ThreadMXBean threads =
                (com.sun.management.ThreadMXBean) ManagementFactory.getThreadMXBean();
        callsOf(x, 10);
        long before = threads.getCurrentThreadAllocatedBytes();
        callsOf(x, 100);
        long made = threads.getCurrentThreadAllocatedBytes() - before;
        CHECK.due("bytes made by some 100,000 calls are few (" + made + ")", made < 20_000, true);
    }

    private static int callsOf(TwoWayLines x, int rounds) {
        int sum = 0;
        for (int round = 0; round < rounds; round++) {
            x.clear();
            x.base(round % 3);
            x.measure(1 + round % 20);
            for (int i = 0; i < 66; i++) {
                sum += x.add((i * 11 + round) % 21, i % 7, i % 4, i % 7 - 3) ? 1 : 0;
                sum += x.paragraphLevel() + x.match(i) + x.partner(i) + x.type(i) + x.level(i)
                        + x.lines() + x.start(i) + x.extent(i) + x.shownLevel(i) + x.shown(0, i);
                sum += x.mayBreak(i) || x.mirrored(i) ? 1 : 0;
            }
            sum += x.drop() ? x.length() : 0;
        }
        return sum;
    }
}

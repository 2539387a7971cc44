import java.io.IOException;
import java.lang.reflect.Constructor;
import java.lang.reflect.Field;
import java.lang.reflect.Method;
import java.lang.reflect.Modifier;
import java.nio.file.Files;
import java.nio.file.Path;
import java.util.List;
import java.util.Set;
import java.util.TreeSet;
import java.util.regex.Matcher;
import java.util.regex.Pattern;

/** The public face of the document, and what of LANGUAGE.md can be seen in the class and its source. */
public final class FaceTest {
    private static final String[] FACE = {"int feed int int int int int", "int state int", "int fault", "int count int",
        "int person int int", "int poet int int", "int line int int int", "int years int", "int burn int",
        "int rewrite int int int", "int pardon int", "int fill int int", "int heal int", "int undo",
        "int then int int int", "int poetThen int int int", "int hurt int int", "int later int int",
        "int worst int int", "int probe int int int int", "int safe int int", "int sonnet int int", "int action int",
        "int readings int", "int best int int", "int feel int int boolean", "void forget", "int truths int",
        "int listen int", "int accidents int int int", "int game int int int", "int decades int int int",
        "int jailed int int", "int into int int int", "int laureate int", "int plaintiff int", "void image",
        "boolean restore"};
    private static final String[] OUTSIDE = {"\\btry\\b", "\\bcatch\\b", "\\bfinally\\b", "->", "::", "Exact\\b",
        "\\bassert\\b", "\\bsynchronized\\b", "\\bprotected\\b", "System\\.(?!arraycopy)", "\\bhashCode\\b",
        "\\btoString\\b", "\\bgetMessage\\b", "\\bdouble\\b", "\\bfloat\\b", "\" \\+", "\\+ \"",
        "Math\\.(?!min\\(|max\\()", "\\bpackage \\b", "\\bstatic \\{"};

    private static final String NOBODY = " count person poet line burn rewrite pardon fill heal then poetThen hurt later worst"
        + " probe safe sonnet action readings best feel truths listen accidents game decades jailed into plaintiff ";
    private static final String BEYOND = " state then poetThen later worst probe safe best accidents game decades jailed into"
        + " laureate ";

    public static void main(String[] args) throws IOException {
        face();
        thrown();
        members();
        source();
        Checks.end();
    }

    private static void face() {
        Class<?> c = PoetFines.class;
        Checks.same("class", Modifier.toString(c.getModifiers()), "public final");
        Checks.same("NONE", PoetFines.NONE, -1);
        Set<String> due = new TreeSet<>(List.of(FACE));
        Set<String> got = new TreeSet<>();
        for (Method m : c.getDeclaredMethods()) {
            if (!Modifier.isPrivate(m.getModifiers())) {
                Checks.same(m.getName(), Modifier.toString(m.getModifiers()), "public");
                StringBuilder row = new StringBuilder(m.getReturnType() + " " + m.getName());
                for (Class<?> p : m.getParameterTypes()) {
                    row.append(' ').append(p);
                }
                got.add(row.toString());
            }
        }
        Checks.same("methods", got, due);
        Checks.same("constructors", c.getDeclaredConstructors().length, 1);
        Checks.same("parameters", c.getConstructors()[0].getParameterCount(), 0);
        for (Field f : c.getDeclaredFields()) {
            boolean mine = f.getName().equals("NONE");
            Checks.same(f.getName(), Modifier.isPrivate(f.getModifiers()), !mine);
        }
    }

    /** The exceptions that the face declares. */
    private static void thrown() {
        for (Method m : PoetFines.class.getDeclaredMethods()) {
            if (!Modifier.isPrivate(m.getModifiers())) {
                String name = " " + m.getName() + " ";
                List<Class<?>> declared = List.of(m.getExceptionTypes());
                boolean nobody = NOBODY.contains(name);
                boolean beyond = BEYOND.contains(name);
                Checks.same(name, declared.contains(java.util.NoSuchElementException.class), nobody);
                Checks.same(name, declared.contains(IllegalArgumentException.class), beyond);
                Checks.same(name, declared.size(), (nobody ? 1 : 0) + (beyond ? 1 : 0));
            }
        }
    }

    private static void members() {
        Set<String> open = new TreeSet<>();
        for (String row : FACE) {
            open.add(row.split(" ")[1]);
        }
        for (Method m : PoetFines.class.getDeclaredMethods()) {
            boolean hidden = Modifier.isPrivate(m.getModifiers());
            Checks.same("private " + m.getName(), hidden && open.contains(m.getName()), false);
        }
        Class<?>[] inside = PoetFines.class.getDeclaredClasses();
        Checks.same("few classes", inside.length <= 11, true);
        for (Class<?> c : inside) {
            Checks.same(c + " is static", Modifier.isStatic(c.getModifiers()), true);
            Checks.same(c + " is not public", Modifier.isPublic(c.getModifiers()), false);
            int fields = 0;
            for (Field f : c.getDeclaredFields()) {
                boolean constant = Modifier.isStatic(f.getModifiers());
                Checks.same(c + " " + f.getName(), constant && !Modifier.isFinal(f.getModifiers()), false);
                fields += constant ? 0 : 1;
            }
            Checks.same(c + " has few fields", fields <= 20, true);
            for (Method m : c.getDeclaredMethods()) {
                Checks.same(c + " " + m.getName(), open.contains(m.getName()), false);
                Checks.same(c + " " + m.getName() + " has few parameters", m.getParameterCount() <= 7, true);
            }
            for (Constructor<?> k : c.getDeclaredConstructors()) {
                Checks.same(c + " constructor", k.getParameterCount() <= 7, true);
            }
        }
    }

    private static void source() throws IOException {
        List<String> lines = Files.readAllLines(Path.of("src/main/java/PoetFines.java"));
        int from = 0;
        for (int k = 0; k < lines.size(); k++) {
            String line = lines.get(k).replaceAll("//.*|/\\*\\*.*?\\*/", "");
            for (String regex : OUTSIDE) {
                Matcher m = Pattern.compile(regex).matcher(line);
                Checks.same("line " + (k + 1) + ": " + line, m.find(), false);
            }
            if (line.startsWith("import")) {
                Checks.same("import", line, "import java.util.NoSuchElementException;");
            }
            if (line.matches("( {4}| {8})[a-zA-Z].*\\{")) {
                from = k;
            }
            if (line.matches("( {4}| {8})\\}") && lines.get(from).matches(".*\\).*\\{")) {
                Checks.same("line " + (from + 1) + " is of a short method", k - from <= 60, true);
            }
        }
        Checks.same("ASCII", String.join("\n", lines).chars().allMatch(c -> c < 127), true);
    }
}

import java.io.File;
import java.io.IOException;
import java.lang.reflect.Method;
import java.lang.reflect.Modifier;
import java.nio.file.Files;
import java.nio.file.Path;
import java.util.Set;
import java.util.TreeSet;
import java.util.regex.Matcher;
import java.util.regex.Pattern;

/** README.md: its example answers as it says, its text has no fault, it names every call and every test there is. */
public final class ReadmeTest {
    public static void main(String[] args) throws IOException {
        String page = Files.readString(Path.of("README.md"));
        example(block(page, "java"));
        text(block(page, "text"));
        refusals();
        calls(page);
        tests(page);
        Checks.end();
    }

    private static String block(String page, String kind) {
        Matcher m = Pattern.compile("```" + kind + "\n(.*?)```", Pattern.DOTALL).matcher(page);
        Checks.same("a block of " + kind, m.find(), true);
        return m.group(1);
    }

    /** Each row x.call(..); with // and its answer behind it. */
    private static void example(String rows) {
        PoetFines x = new PoetFines();
        int asked = 0;
        Matcher m = Pattern.compile("x\\.(\\w+)\\((.*?)\\); *// (-?\\d+): ").matcher(rows);
        while (m.find()) {
            String[] words = m.group(2).isEmpty() ? new String[0] : m.group(2).split(", ");
            Object[] numbers = new Object[words.length];
            for (int k = 0; k < words.length; k++) {
                numbers[k] = Integer.decode(words[k]);
            }
            Checks.due(x, m.group(3), m.group(1), numbers);
            asked++;
        }
        Checks.same("rows of the example", asked, rows.split("x\\.").length - 1);
    }

    /** "Two people, two poets and all three rules". */
    private static void text(String text) {
        PoetFines x = Checks.town(text);
        Checks.due(x, 2, "count 0");
        Checks.due(x, 2, "count 1");
        Checks.due(x, 2, "count 2");
        // hits: 5 * 3 / 4; without the rule it would be 3 as well, but of depth 9 another
        Checks.due(x, 3, "probe 0 0 0 5");
        Checks.due(x, 6, "probe 0 0 0 9");
        // fines: no rhyme in the first one's row of two, one in the other's row of one
        Checks.due(x, 3, "line 0 0 3");
        Checks.due(x, 1 + 1, "line 1 0 3");
        // buys: who has scars doesn't
        Checks.due(x, 1, "poetThen 0 9 4");
    }

    /** "Refused acts and feelings answer NONE and are counted"; exceptions change nothing. */
    private static void refusals() {
        PoetFines x = Checks.town(Checks.BASE);
        Checks.load(x, "person 1;");
        Checks.due(x, 1, "state 9");
        Checks.due(x, 8, "fault");
        Checks.due(x, PoetFines.NONE, "fill 0 100");
        Checks.due(x, PoetFines.NONE, "feel 0 21 true");
        for (int what = 12; what <= 14; what++) {
            Checks.due(x, 1, "count " + what);
        }
        String was = Checks.facts(x);
        Checks.due(x, Checks.NO_SUCH, "person 3 0");
        Checks.due(x, Checks.NO_SUCH, "poet 2 0");
        Checks.due(x, Checks.NO_SUCH, "line 0 3 0");
        Checks.due(x, Checks.NO_SUCH, "count 15");
        Checks.due(x, Checks.WRONG, "then 0 61 0");
        Checks.due(x, Checks.WRONG, "state 1");
        Checks.same("facts", Checks.facts(x), was);
        for (int what = 12; what <= 14; what++) {
            Checks.due(x, 1, "count " + what);
        }
    }

    private static void calls(String page) {
        String table = page.substring(page.indexOf("| to do what"), page.indexOf("A text with a fault"));
        Set<String> named = new TreeSet<>();
        Matcher m = Pattern.compile("`(\\w+)`").matcher(table);
        while (m.find()) {
            Checks.same(m.group(1) + " is named once", named.add(m.group(1)), true);
        }
        Set<String> open = new TreeSet<>();
        for (Method method : PoetFines.class.getDeclaredMethods()) {
            if (Modifier.isPublic(method.getModifiers())) {
                open.add(method.getName());
            }
        }
        Checks.same("calls", named, open);
    }

    private static void tests(String page) {
        Set<String> named = new TreeSet<>();
        Matcher m = Pattern.compile("`(\\w+Test)`").matcher(page);
        while (m.find()) {
            named.add(m.group(1));
        }
        Set<String> there = new TreeSet<>();
        String[] files = new File("src/test/java").list();
        for (String file : files == null ? new String[0] : files) {
            if (file.endsWith("Test.java")) {
                there.add(file.substring(0, file.length() - ".java".length()));
            }
        }
        Checks.same("tests", named, there);
    }
}

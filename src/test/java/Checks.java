import java.lang.reflect.InvocationTargetException;
import java.lang.reflect.Method;

/** What the project's tests share: calls by name with the answer that is due, and texts on the tape. */
final class Checks {
    /** A small state that many tests begin with. */
    static final String BASE =
        "topics 2;person 5 3 0;person 0 0 4;person 9 2 2;poet 4 0 5 1 3 0 0;poet 20 1 1;";
    static final String NO_SUCH = "throws.NoSuchElementException";
    static final String WRONG = "throws.IllegalArgumentException";

    private static int asked = 0;
    private static int wrong = 0;

    private Checks() {
    }

    /** A new object with this state; the text must have no fault. */
    static PoetFines town(String text) {
        PoetFines x = new PoetFines();
        due(x, 0, "state", load(x, text));
        return x;
    }

    /** Feeds the text, filled up with blanks: how many bytes it has. */
    static int load(PoetFines x, String text) {
        byte[] bytes = new byte[(text.length() + 19) / 20 * 20];
        for (int k = 0; k < bytes.length; k++) {
            bytes[k] = (byte) (k < text.length() ? text.charAt(k) : ' ');
        }
        for (int k = 0; k < bytes.length; k += 20) {
            x.feed(four(bytes, k), four(bytes, k + 4), four(bytes, k + 8), four(bytes, k + 12), four(bytes, k + 16));
        }
        return text.length();
    }

    private static int four(byte[] bytes, int k) {
        return (bytes[k] & 255) << 24 | (bytes[k + 1] & 255) << 16 | (bytes[k + 2] & 255) << 8 | bytes[k + 3] & 255;
    }

    /** Reads a text on a new object: the fault that is due, and its place. */
    static void reads(String text, int fault, int place) {
        PoetFines x = new PoetFines();
        int n = load(x, text);
        same("state of " + text, answer(x, "state", n), fault);
        same("fault of " + text, answer(x, "fault"), place);
    }

    /** All that can be seen without asking ahead, but STATUS and the latest fault: 143 calls at most. */
    static String facts(PoetFines x) {
        StringBuilder all = new StringBuilder("count");
        for (int what = 0; what < 12; what++) {
            all.append(' ').append(x.count(what));
        }
        int topics = x.count(0);
        int people = x.count(1);
        int poets = x.count(2);
        for (int p = 0; p < people; p++) {
            all.append("; person");
            for (int what = 0; what < 10 + topics; what = what == 2 ? 10 : what + 1) {
                all.append(' ').append(x.person(p, what));
            }
        }
        for (int p = 0; p < poets; p++) {
            all.append("; poet");
            for (int what = 0; what < 5; what++) {
                all.append(' ').append(x.poet(p, what));
            }
            int lines = x.poet(p, 1);
            for (int l = 0; l < lines; l++) {
                all.append(", ").append(x.line(p, l, 0)).append(' ').append(x.line(p, l, 1));
            }
        }
        return all.toString();
    }

    /** What a call answers that stands in one row: its name, and numbers, true or false behind it. */
    static Object ask(PoetFines x, String call) {
        String[] words = call.split(" ");
        Object[] args = new Object[words.length - 1];
        for (int k = 0; k < args.length; k++) {
            String word = words[k + 1];
            args[k] = word.matches("true|false") ? (Object) word.equals("true") : (Object) Integer.parseInt(word);
        }
        return answer(x, words[0], args);
    }

    /** Asks a call that stands in one row. */
    static void due(PoetFines x, Object want, String call) {
        same(call, ask(x, call), want);
    }

    /** Calls the method and notes an answer other than the one that is due. */
    static void due(PoetFines x, Object want, String name, Object... args) {
        same(name + java.util.Arrays.toString(args), answer(x, name, args), want);
    }

    static void same(String what, Object got, Object want) {
        asked++;
        if (!String.valueOf(got).equals(String.valueOf(want))) {
            wrong++;
            StackTraceElement[] trace = new Throwable().getStackTrace();
            int line = 0;
            for (StackTraceElement e : trace) {
                if (!e.getClassName().equals("Checks")) {
                    line = e.getLineNumber();
                    break;
                }
            }
            System.out.println("line " + line + ": " + what + " answered " + got + ", due is " + want);
        }
    }

    /** What a call answers; an exception as throws. and its name. */
    static Object answer(Object x, String name, Object... args) {
        for (Method m : x.getClass().getDeclaredMethods()) {
            if (m.getName().equals(name) && m.getParameterCount() == args.length
                    && !java.lang.reflect.Modifier.isPrivate(m.getModifiers())) {
                try {
                    m.setAccessible(true);
                    return m.invoke(x, args);
                } catch (InvocationTargetException e) {
                    return "throws." + e.getCause().getClass().getSimpleName();
                } catch (IllegalAccessException e) {
                    return e;
                }
            }
        }
        return "no method " + name;
    }

    static void end() {
        System.out.println(asked + " answers asked, " + wrong + " not as due");
        if (wrong != 0) {
            System.exit(1);
        }
    }
}

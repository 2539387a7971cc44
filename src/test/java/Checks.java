import java.lang.reflect.InvocationTargetException;
import java.lang.reflect.Method;

/** What the project's tests share: calls by name with the answer that is due, and texts on the tape. */
final class Checks {
    static final String NO_SUCH = "throws.NoSuchElementException";
    static final String WRONG = "throws.IllegalArgumentException";

    private static int asked = 0;
    private static int wrong = 0;

    private Checks() {
    }

    /** A new object with this state; the text must have no fault. */
    static PoetFines town(String text) {
        PoetFines x = new PoetFines();
        due(x, 0, "state", load(x, text));
        return x;
    }

    /** Feeds the text, filled up with blanks: how many bytes it has. */
    static int load(PoetFines x, String text) {
        byte[] bytes = new byte[(text.length() + 19) / 20 * 20];
        for (int k = 0; k < bytes.length; k++) {
            bytes[k] = (byte) (k < text.length() ? text.charAt(k) : ' ');
        }
        for (int k = 0; k < bytes.length; k += 20) {
            x.feed(four(bytes, k), four(bytes, k + 4), four(bytes, k + 8), four(bytes, k + 12), four(bytes, k + 16));
        }
        return text.length();
    }

    private static int four(byte[] bytes, int k) {
        return (bytes[k] & 255) << 24 | (bytes[k + 1] & 255) << 16 | (bytes[k + 2] & 255) << 8 | bytes[k + 3] & 255;
    }

    /** Calls the method and notes an answer other than the one that is due. */
    static void due(PoetFines x, Object want, String name, Object... args) {
        same(name + java.util.Arrays.toString(args), answer(x, name, args), want);
    }

    static void same(String what, Object got, Object want) {
        asked++;
        if (!String.valueOf(got).equals(String.valueOf(want))) {
            wrong++;
            StackTraceElement[] trace = new Throwable().getStackTrace();
            int line = 0;
            for (StackTraceElement e : trace) {
                if (!e.getClassName().equals("Checks")) {
                    line = e.getLineNumber();
                    break;
                }
            }
            System.out.println("line " + line + ": " + what + " answered " + got + ", due is " + want);
        }
    }

    /** What a call answers; an exception as throws. and its name. */
    static Object answer(Object x, String name, Object... args) {
        for (Method m : x.getClass().getDeclaredMethods()) {
            if (m.getName().equals(name) && m.getParameterCount() == args.length
                    && !java.lang.reflect.Modifier.isPrivate(m.getModifiers())) {
                try {
                    m.setAccessible(true);
                    return m.invoke(x, args);
                } catch (InvocationTargetException e) {
                    return "throws." + e.getCause().getClass().getSimpleName();
                } catch (IllegalAccessException e) {
                    return e;
                }
            }
        }
        return "no method " + name;
    }

    static void end() {
        System.out.println(asked + " answers asked, " + wrong + " not as due");
        if (wrong != 0) {
            System.exit(1);
        }
    }
}

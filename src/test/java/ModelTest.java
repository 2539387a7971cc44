import java.util.Random;

/** Random runs of calls on the program and on the model of the document: all answers must be alike. */
public final class ModelTest {
    private static final String[] VALUES = {"scars", "purse", "before", "year"};
    private static final String[] HITS = {"depth", "true"};
    private static final String[] FINES = {"inches", "rhymes"};
    private static final String[] SCRAPS = {";", "(", ")", "+", "-", "*", "/", "<", "=", "not ", "and ", "or ", "12345 ",
        "100 ", "9 ", "topics 2;", "person ", "poet ", "hits 1;", "fines ", "buys ", "x ", "A", "#", "\t", "\n", "",
        "(((((((", "((((((1))))))", "not not not not not not not 1", "depth ", "inches ", "00003 ", "0002 ", "4 "};

    private static final String[] NUMBERED = {"count 1", "person 2", "poet 2", "line 3", "years 1", "burn 1",
        "rewrite 3", "pardon 1", "fill 2", "heal 1", "undo 0", "then 3", "poetThen 3", "hurt 2", "later 2", "worst 2",
        "probe 4", "safe 2", "sonnet 2", "action 1", "readings 1", "best 2", "truths 1", "listen 1", "accidents 3",
        "game 3", "decades 3", "jailed 2", "into 3", "laureate 1", "plaintiff 1"};

    private final Random random;
    private boolean edge = false;

    private ModelTest(long seed) {
        random = new Random(seed);
    }

    public static void main(String[] args) {
        int runs = args.length > 0 ? Integer.parseInt(args[0]) : 100;
        long first = args.length > 1 ? Long.parseLong(args[1]) : 1;
        for (long seed = first; seed < first + runs; seed++) {
            new ModelTest(seed).run(seed);
            new ModelTest(-seed).faults(-seed);
        }
        Checks.end();
    }

    private void run(long seed) {
        PoetFines x = new PoetFines();
        Model m = new Model();
        int left = 500;
        String trail = "seed " + seed + ": ";
        while (left > 80) {
            String text = town();
            left -= give(x, m, text, trail + text);
            int calls = 20 + random.nextInt(200);
            for (int k = 0; k < calls && left > 0; k++, left--) {
                anyCall(x, m, trail + text);
            }
        }
    }

    private void faults(long seed) {
        PoetFines x = new PoetFines();
        Model m = new Model();
        for (int left = 500; left > 80;) {
            StringBuilder text = new StringBuilder(town());
            int edits = 1 + random.nextInt(2);
            for (int k = 0; k < edits; k++) {
                int from = random.nextInt(text.length() + 1);
                int to = Math.min(text.length(), from + random.nextInt(4));
                text.replace(from, to, SCRAPS[random.nextInt(SCRAPS.length)]);
            }
            left -= give(x, m, text.toString(), "seed " + seed + ": " + text);
            both(x, m, "", "count", random.nextInt(15));
        }
    }

    private int give(PoetFines x, Model m, String text, String trail) {
        String cut = text.length() > 690 ? text.substring(0, 690) : text;
        byte[] bytes = new byte[(cut.length() + 19) / 20 * 20];
        for (int k = 0; k < bytes.length; k++) {
            bytes[k] = (byte) (k < cut.length() ? cut.charAt(k) : 32);
        }
        java.nio.ByteBuffer b = java.nio.ByteBuffer.wrap(bytes);
        int calls = 0;
        while (b.hasRemaining()) {
            both(x, m, trail, "feed", b.getInt(), b.getInt(), b.getInt(), b.getInt(), b.getInt());
            calls++;
        }
        if (random.nextInt(8) == 0) {
            both(x, m, trail, "state", bytes.length + 1);
            both(x, m, trail, "state", -1);
        }
        both(x, m, trail, "state", cut.length());
        both(x, m, trail, "fault");
        return calls + 4;
    }

    private void anyCall(PoetFines x, Model m, String trail) {
        int kind = random.nextInt(NUMBERED.length + 5);
        if (kind == NUMBERED.length) {
            both(x, m, trail, "image");
        } else if (kind == NUMBERED.length + 1) {
            both(x, m, trail, "restore");
        } else if (kind == NUMBERED.length + 2) {
            if (random.nextInt(4) == 0) {
                both(x, m, trail, "forget");
            }
        } else if (kind >= NUMBERED.length + 3) {
            int year = random.nextInt(10) == 0 ? 21 * random.nextInt(2) : 1 + random.nextInt(20);
            both(x, m, trail, "feel", index(8), year, random.nextBoolean());
        } else {
            String[] call = NUMBERED[kind].split(" ");
            Object[] args = new Object[Integer.parseInt(call[1])];
            for (int k = 0; k < args.length; k++) {
                args[k] = argument(call[0], k);
            }
            both(x, m, trail, call[0], args);
        }
    }

    private int argument(String name, int k) {
        switch (name) {
            case "count": return index(15);
            case "person": return k == 0 ? index(8) : random.nextBoolean() ? index(3) : 10 + index(4);
            case "poet": return k == 0 ? index(4) : index(5);
            case "line": return index(k == 0 ? 4 : k == 1 ? 6 : 5);
            case "years": return random.nextInt(3) == 0 ? 1 + index(20) : 1 + random.nextInt(3);
            case "rewrite": return index(k == 0 ? 4 : k == 1 ? 6 : 10);
            case "fill": return k == 0 ? index(8) : index(100);
            case "then": return k == 0 ? index(8) : k == 1 ? index(61) : index(3);
            case "poetThen": return k == 0 ? index(4) : k == 1 ? index(61) : index(6);
            case "hurt": return k == 0 ? index(8) : index(4);
            case "later": return k == 0 ? index(61) : index(5);
            case "worst", "best": return k == 0 ? 1 + index(60) : index(2);
            case "probe": return index(k == 0 ? 4 : k == 1 ? 8 : k == 2 ? 4 : 10);
            case "safe": return index(4);
            case "sonnet": return k == 0 ? index(4) : index(2);
            case "readings": return random.nextInt(3) == 0 ? -1 : index(4);
            case "truths": return index(3);
            case "listen": return index(2);
            case "accidents": return k == 0 ? index(8) : k == 1 ? 1 + index(5) : index(11);
            case "game": return k == 2 ? index(2) : index(4);
            case "decades": return k == 0 ? random.nextInt() : k == 1 ? index(61) : index(3);
            case "jailed": return k == 0 ? index(4) : index(61);
            case "into": return k == 0 ? index(8) : k == 1 ? index(4) : index(61);
            case "laureate": return index(61);
            case "heal", "plaintiff": return index(8);
            default: return index(4);
        }
    }

    /** Mostly one that may be there, now and then one that is not. */
    private int index(int many) {
        if (random.nextInt(25) == 0) {
            return random.nextBoolean() ? -1 : random.nextBoolean() ? many : random.nextInt();
        }
        int some = random.nextInt(many);
        return many <= 8 && random.nextInt(3) > 0 ? Math.min(some, random.nextInt(many)) : some;
    }

    private String town() {
        StringBuilder text = new StringBuilder();
        int topics = 3;
        if (random.nextInt(3) > 0) {
            topics = 2 + random.nextInt(3);
            text.append("topics ").append(topics).append(random.nextBoolean() ? ";" : " ;\n");
        }
        // now and then as many as there can be, each number the least or the greatest
        edge = random.nextInt(4) == 0;
        int people = edge ? 8 - random.nextInt(2) : random.nextInt(9);
        int poets = edge ? 4 - random.nextInt(2) : random.nextInt(5);
        int rich = random.nextBoolean() ? 100 : 12;
        for (int k = 0; k < people; k++) {
            text.append("person ").append(some(rich));
            for (int t = 0; t < topics; t++) {
                text.append(' ').append(edge || random.nextInt(3) == 0 ? some(10) : random.nextInt(3));
            }
            text.append(';');
        }
        for (int k = 0; k < poets; k++) {
            text.append("poet ").append(some(rich));
            int lines = 1 + some(6);
            for (int l = 0; l < lines; l++) {
                text.append(' ').append(random.nextInt(topics)).append(' ').append(some(10));
            }
            text.append(';');
        }
        if (random.nextInt(2) == 0) {
            text.append("hits ").append(expr(0, HITS)).append(';');
        }
        if (random.nextInt(2) == 0) {
            text.append("fines ").append(expr(0, FINES)).append(';');
        }
        if (random.nextInt(2) == 0) {
            text.append("buys ").append(expr(0, new String[0])).append(';');
        }
        return text.length() > 600 ? "person 1 2 3 4;poet 3 0 4;" : text.toString();
    }

    /** Below this number; on the edge the least or the greatest. */
    private int some(int many) {
        return edge ? (many - 1) * random.nextInt(2) : random.nextInt(many);
    }

    private String expr(int depth, String[] more) {
        int kind = depth > 4 ? random.nextInt(4) : random.nextInt(12);
        if (kind < 2) {
            return " " + VALUES[random.nextInt(VALUES.length)] + " ";
        }
        if (kind == 2 && more.length > 0 || kind == 5 && more.length > 0) {
            return " " + more[random.nextInt(more.length)] + " ";
        }
        if (kind < 4) {
            return String.valueOf(random.nextInt(random.nextInt(5) == 0 ? 10000 : 12));
        }
        if (kind == 4) {
            return "(" + expr(depth + 1, more) + ")";
        }
        if (kind == 6) {
            return "(not " + expr(depth + 1, more) + ")";
        }
        String[] operators = {"+", "-", "*", "/", "<", "=", " and ", " or "};
        String operator = operators[random.nextInt(8)];
        String joined = expr(depth + 1, more) + operator + expr(depth + 1, more);
        return operator.equals("<") || operator.equals("=") ? "(" + joined + ")" : joined;
    }

    private static void both(PoetFines x, Model m, String trail, String name, Object... args) {
        Object want = Checks.answer(m, name, args);
        Checks.same(trail + " " + name + java.util.Arrays.toString(args), Checks.answer(x, name, args), want);
    }
}

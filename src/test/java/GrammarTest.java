import java.util.ArrayList;
import java.util.Arrays;
import java.util.List;

/**
 * Promises 3 and 4, "FAULTS, the first along the text, at a TOKEN's first byte, of one TOKEN the least": at each
 * place of the grammar each kind of TOKEN, whether it can stand there, and which fault it is if not.
 */
public final class GrammarTest {
    private static final String DIGITS = "0 1 2 3 4 5 9";
    private static final String SHORT = DIGITS + " 0009 10 99 0099 100 9999";
    /** The last two are 1 if only 32 or 64 bits of them are kept. */
    private static final String LONG = "00001 10000 4294967297 18446744073709551617";
    private static final String CLAUSES = "person poet hits fines buys";
    private static final String VALUES = "scars purse before year depth true inches rhymes";
    private static final String WORDS = "topics or and not x notdepth depths " + CLAUSES + " " + VALUES;
    private static final String OPERATORS = "+ - * / < =";
    private static final String ALL = "; ( ) # A > : ` { " + SHORT + " " + LONG + " " + WORDS + " " + OPERATORS;

    private static final String EIGHT = "person 1 1 1 1;".repeat(8);
    private static final String FOUR = "poet 1 0 1;".repeat(4);

    public static void main(String[] args) {
        clauses();
        topics();
        person();
        poet();
        parts();
        behindParts();
        withinOthers();
        nots();
        spelling();
        Checks.end();
    }

    /** "CLAUSE*", "'topics' but at the beginning", "the 9th PERSON, the 5th POET", "a second 'hits', 'fines', 'buys'". */
    private static void clauses() {
        place("", "topics " + CLAUSES, "", "", "");
        place("topics 2;", CLAUSES, "", "", "");
        place("person 1 2 3 4;", CLAUSES, "", "", "");
        place("poet 1 0 1;", CLAUSES, "", "", "");
        place(EIGHT.substring(15), CLAUSES, "", "", "");
        place(EIGHT, "poet hits fines buys", "person", "", "");
        place(FOUR.substring(11), CLAUSES, "", "", "");
        place(FOUR, "person hits fines buys", "poet", "", "");
        place(EIGHT + FOUR, "hits fines buys", "person poet", "", "");
        place("hits 1;", "person poet fines buys", "", "", "hits");
        place("fines 1;", "person poet hits buys", "", "", "fines");
        place("buys 1;", "person poet hits fines", "", "", "buys");
        place("buys 1;hits 1;fines 1;", "person poet", "", "", "hits fines buys");
    }

    /** "'topics' NUMBER ';'", "2 to 4". */
    private static void topics() {
        place("topics", "2 3 4", but(SHORT + " " + LONG, "2 3 4"), "", "");
        place("topics 2", ";", "", "", "");
        place("topics 4", ";", "", "", "");
    }

    /** "'person' PURSE TRUE TRUE* (as many as there are TOPICS)", "0 to 99", "0 to 9". */
    private static void person() {
        place("person", but(SHORT, "100 9999"), "100 9999 " + LONG, "", "");
        String tooTrue = "10 99 0099 100 9999 " + LONG;
        place("person 0", DIGITS + " 0009", tooTrue, "", "");
        place("person 0 9", DIGITS + " 0009", tooTrue, "", "");
        place("person 99 9 0", DIGITS + " 0009", tooTrue, "", "");
        place("person 99 9 0 9", ";", "", "", "");
        place("topics 2;person 0 9", DIGITS + " 0009", tooTrue, "", "");
        place("topics 2;person 0 9 1", ";", "", "", "");
        place("topics 4;person 0 9 1 1", DIGITS + " 0009", tooTrue, "", "");
        place("topics 4;person 0 9 1 1 0", ";", "", "", "");
    }

    /** "'poet' PURSE (TOPIC DEPTH) (TOPIC DEPTH)*", "1 to 6", "the 7th LINE", "a TOPIC that there isn't, however great". */
    private static void poet() {
        place("poet", but(SHORT, "100 9999"), "100 9999 " + LONG, "", "");
        place("poet 0", "0 1 2", LONG, but(SHORT, "0 1 2"), "");
        place("poet 99 2", DIGITS + " 0009", "10 99 0099 100 9999 " + LONG, "", "");
        place("poet 0 0 9", "; 0 1 2", LONG, but(SHORT, "0 1 2"), "");
        place("poet 0 0 9 1", DIGITS + " 0009", "10 99 0099 100 9999 " + LONG, "", "");
        place("topics 2;poet 0", "0 1", LONG, but(SHORT, "0 1"), "");
        place("topics 4;poet 0", "0 1 2 3", LONG, but(SHORT, "0 1 2 3"), "");
        place("poet 0" + " 0 1".repeat(5), "; 0 1 2", LONG, but(SHORT, "0 1 2"), "");
        place("poet 0" + " 0 1".repeat(5) + " 2", DIGITS + " 0009", "10 99 0099 100 9999 " + LONG, "", "");
        place("poet 0" + " 0 1".repeat(6), ";", SHORT + " " + LONG, "", "");
    }

    /** "any word where a PART must stand that is no VALUE of this EXPR". */
    private static void parts() {
        String always = SHORT + " ( scars purse before year ";
        for (String ahead : new String[] {"", "(", "1 or", "1 and", "not", "1+1<1 or", "(((((", "1 and not"}) {
            part("hits " + ahead, always + "depth true not");
            part("fines " + ahead, always + "inches rhymes not");
            part("buys " + ahead, always + "not");
        }
        for (String ahead : new String[] {"1+", "1-", "1*", "1/", "1<", "1=", "not 1+", "1 or 1*", "(1<", "1<1+", "1=1/"}) {
            part("hits " + ahead, always + "depth true");
            part("fines " + ahead, always + "inches rhymes");
            part("buys " + ahead, always);
        }
    }

    private static void part(String ahead, String can) {
        place(ahead, can, LONG, but(WORDS, can), "");
    }

    /** What can stand where no PART must: words are no more than a TOKEN that can't. */
    private static void behindParts() {
        for (String part : new String[] {"1", "scars", "(1)", "not 1", "1+1", "1*1", "1<1 and 1", "1 or not 1"}) {
            place("hits " + part, "; or and " + OPERATORS, "", "", "");
            place("fines (" + part, ") or and " + OPERATORS, "", "", "");
        }
        for (String test : new String[] {"1<1", "1=1", "not 1<1+1", "1 or 1=1", "(1<1)=1"}) {
            place("hits " + test, "; or and + - * /", "", "", "");
            place("buys (" + test, ") or and + - * /", "", "", "");
        }
    }

    /** "the first TOKEN .. of an EXPR within 6 others (a NUMBER, any word, a parenthesis)". */
    private static void withinOthers() {
        String first = SHORT + " " + LONG + " " + WORDS + " (";
        for (String rule : new String[] {"hits ", "fines ", "buys "}) {
            place(rule + "((((((", "", first, "", "");
            place(rule + "1 or not 1+(1*(1<(1 and (1=(not (", "", first, "", "");
            place(rule + "(((((1)))))+((((((", "", first, "", "");
            place(rule + "(((((1", ") or and " + OPERATORS, "", "", "");
        }
        Checks.reads("hits (((((1)))))+(((((1+(1)))))));", 2, 25);
        Checks.reads("hits (((((1)))))+(((((1)))));", 0, -1);
    }

    /** "the seventh 'not' side by side". */
    private static void nots() {
        String six = "not not not not not not";
        String can = but(SHORT + " ( scars purse before year depth true ", "not");
        place("hits " + six.substring(4), can + " not", LONG, but(WORDS, can + " not"), "");
        place("hits " + six, can, LONG + " not", but(WORDS, can + " not"), "");
        place("hits 1 and " + six, can, LONG + " not", but(WORDS, can + " not"), "");
        place("hits " + six + " 1 or " + six.substring(4), can + " not", LONG, but(WORDS, can + " not"), "");
        place("hits " + six + "(" + six.substring(4), can + " not", LONG, but(WORDS, can + " not"), "");
        place("hits " + six + "(" + six, can, LONG + " not", but(WORDS, can + " not"), "");
        String nested = "";
        for (int k = 0; k < 5; k++) {
            nested += six + "(";
        }
        Checks.reads("hits " + nested + six + " 7)))));", 0, -1);
    }

    /** A word is one of those that are told only if each of its letters is, no more and no less. */
    private static void spelling() {
        String[] rows = {"topics 2;/topics", "person 1 1 1 1;/person", "poet 1 0 1;/poet", "hits 1;/hits", "fines 1;/fines",
            "buys 1;/buys"};
        for (String row : rows) {
            String text = row.split("/")[0];
            Checks.reads(text, 0, -1);
            for (String other : misspelt(row.split("/")[1])) {
                Checks.reads(other + text.substring(row.split("/")[1].length()), 1, 0);
            }
        }
        for (String value : VALUES.split(" ")) {
            String rule = "depth true".contains(value) ? "hits " : "fines ";
            Checks.reads(rule + value + ";", 0, -1);
            for (String other : misspelt(value)) {
                Checks.reads(rule + other + ";", 3, rule.length());
            }
        }
        for (String operator : new String[] {"or", "and"}) {
            Checks.reads("hits 1 " + operator + " 1;", 0, -1);
            for (String other : misspelt(operator)) {
                Checks.reads("hits 1 " + other + " 1;", 1, 7);
            }
        }
        for (String other : misspelt("not")) {
            Checks.reads("hits " + other + " 1;", 3, 5);
        }
    }

    private static List<String> misspelt(String word) {
        List<String> all = new ArrayList<>(List.of(word + "s", word + "a", "a" + word, word + word));
        for (int k = 0; k < word.length(); k++) {
            all.add(word.substring(0, k) + (word.charAt(k) == 'z' ? 'y' : 'z') + word.substring(k + 1));
            all.add(word.substring(0, k) + word.charAt(k) + word.substring(k));
            if (word.length() > 2) {
                all.add(word.substring(0, k) + word.substring(k + 1));
            }
        }
        return all;
    }

    /** Behind this beginning: which tokens can stand, and which are fault 2, 3 or 5; all others are fault 1. */
    private static void place(String ahead, String can, String tooMuch, String unknown, String twice) {
        List<String> allowed = List.of(can.trim().split(" +"));
        int end = ahead.length();
        boolean whole = ahead.isEmpty() || ahead.endsWith(";");
        Checks.reads(ahead, whole ? 0 : 1, whole ? -1 : end);
        Checks.reads(ahead + " \n ", whole ? 0 : 1, whole ? -1 : end + 3);
        for (String token : ALL.split(" ")) {
            String text = ahead + "\n " + token;
            if (allowed.contains(token)) {
                Checks.reads(text + " #", 1, text.length() + 1);
                boolean ends = token.equals(";");
                Checks.reads(text, ends ? 0 : 1, ends ? -1 : text.length());
            } else {
                int fault = has(tooMuch, token) ? 2 : has(unknown, token) ? 3 : has(twice, token) ? 5 : 1;
                Checks.reads(text, fault, end + 2);
                Checks.reads(text + " #;", fault, end + 2);
            }
        }
    }

    private static boolean has(String row, String token) {
        return Arrays.asList(row.split(" ")).contains(token);
    }

    private static String but(String row, String without) {
        List<String> left = new ArrayList<>(Arrays.asList(row.split(" +")));
        left.removeAll(Arrays.asList(without.split(" +")));
        return String.join(" ", left);
    }
}

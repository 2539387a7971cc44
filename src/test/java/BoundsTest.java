import java.util.LinkedHashSet;
import java.util.Set;

/**
 * Promises 5 to 37: each argument of each call at the last value that is allowed and at the first one that is not, on
 * both sides, and far away; behind a refused call all is as it was, but STATUS where the document says so.
 */
public final class BoundsTest {
    /** Refused acts and feelings answer NONE; these count them in STATUS 1 and 2. */
    private static final String ACT = "-1, STATUS 1";
    private static final String FELT = "-1, STATUS 2";
    private static final String NO = Checks.NO_SUCH;
    private static final String WRONG = Checks.WRONG;

    private static String text;
    private static int topics;
    private static int people;
    private static int poets;
    private static int lines;

    public static void main(String[] args) {
        bounds(4, 8, 4, 6);
        bounds(3, 5, 2, 3);
        bounds(2, 1, 1, 1);
        bounds(2, 0, 1, 2);
        bounds(4, 1, 0, 0);
        bounds(3, 0, 0, 0);
        asAtFirst();
        whichGoesAhead();
        Checks.end();
    }

    /** A town of so many, whose poets have so many lines; each number of a poet's row is one that is told. */
    private static void bounds(int ofTopics, int ofPeople, int ofPoets, int ofLines) {
        topics = ofTopics;
        people = ofPeople;
        poets = ofPoets;
        lines = ofLines;
        text = (topics == 3 ? "" : "topics " + topics + ";") + ("person 9" + " 1".repeat(topics) + ";").repeat(people)
            + ("poet 2" + " 0 5 1 2 1 3 0 4 1 5 0 6".substring(0, 4 * lines) + ";").repeat(poets);
        ofAll();
        if (people > 0) {
            ofPeople();
        }
        if (poets > 0) {
            ofPoets();
        }
        if (people > 0 && poets > 0) {
            ofBoth();
        }
        nobodyElse();
    }

    private static void ofAll() {
        bound("count #", 0, 14, NO);
        bound("years #", 1, 20, ACT);
        bound("later # 0", 0, 60, WRONG);
        bound("later 1 #", 0, 4, NO);
        bound("worst # 0", 1, 60, WRONG);
        bound("worst # 1", 1, 60, WRONG);
        bound("worst 1 #", 0, 1, NO);
        bound("best # 0", 1, 60, WRONG);
        bound("best # 1", 1, 60, WRONG);
        bound("best 1 #", 0, 1, NO);
        bound("readings #", -1, poets - 1, NO);
        bound("truths #", 0, 2, NO);
        bound("listen #", 0, 1, NO);
        bound("decades # 9 1", Integer.MIN_VALUE, Integer.MAX_VALUE, NO);
        bound("decades 5 # 0", 0, 60, WRONG);
        bound("decades 5 1 #", 0, 2, NO);
        bound("laureate #", 0, 60, WRONG);
        bound("state #", 0, 20, WRONG);
    }

    private static void ofPeople() {
        bound("person 0 #", 0, 2, NO, 10, 9 + topics);
        bound("person " + (people - 1) + " #", 0, 2, NO, 10, 9 + topics);
        bound("fill 0 #", 0, 99, ACT);
        bound("then 0 # 0", 0, 60, WRONG);
        bound("then 0 # 2", 0, 60, WRONG);
        bound("then 0 1 #", 0, 2, NO);
        bound("feel 0 # true", 1, 20, FELT);
        bound("feel 0 # false", 1, 20, FELT);
        bound("accidents 0 # 5", 1, 5, WRONG);
        bound("accidents 0 1 #", 0, 10, WRONG);
    }

    private static void ofPoets() {
        bound("poet 0 #", 0, 4, NO);
        bound("line 0 # 0", 0, lines - 1, NO);
        bound("line " + (poets - 1) + " # 3", 0, lines - 1, NO);
        bound("line 0 0 #", 0, 4, NO);
        bound("rewrite 0 # 9", 0, lines - 1, NO);
        bound("rewrite 0 0 #", 0, 9, ACT);
        bound("poetThen 0 # 0", 0, 60, WRONG);
        bound("poetThen 0 # 5", 0, 60, WRONG);
        bound("poetThen 0 1 #", 0, 5, NO);
        bound("safe 0 #", 0, topics - 1, WRONG);
        bound("sonnet 0 #", 0, 1, NO);
        bound("jailed 0 #", 0, 60, WRONG);
        if (poets > 1) {
            bound("game 0 1 #", 0, 1, NO);
            bound("game # 0 0", 1, poets - 1, NO, 0, 0);
            bound("game 0 # 0", 1, poets - 1, NO, 0, 0);
        }
    }

    private static void ofBoth() {
        bound("probe 0 0 # 5", 0, topics - 1, WRONG);
        bound("probe 0 0 0 #", 0, 9, WRONG);
        bound("into 0 0 #", 0, 60, WRONG);
    }

    /** "no such PERSON (as everywhere)", "no such POET (as everywhere)": also where there is nobody at all. */
    private static void nobodyElse() {
        for (String call : new String[] {"person # 0", "person # 10", "fill # 5", "heal #", "then # 1 0", "feel # 1 true",
            "accidents # 1 5", "plaintiff #"}) {
            bound(call, 0, people - 1, NO);
        }
        for (String call : new String[] {"poet # 0", "poet # 4", "line # 0 1", "burn #", "rewrite # 0 9", "pardon #",
            "poetThen # 1 0", "safe # 0", "sonnet # 0", "action #", "jailed # 1"}) {
            bound(call, 0, poets - 1, NO);
        }
        for (String call : new String[] {"hurt # 0", "probe 0 # 0 0", "into # 0 1"}) {
            bound(call, 0, poets == 0 ? -1 : people - 1, NO);
        }
        for (String call : new String[] {"hurt 0 #", "probe # 0 0 0", "into 0 # 1"}) {
            bound(call, 0, people == 0 ? -1 : poets - 1, NO);
        }
        if (poets < 2) {
            bound("game # 1 0", 0, -1, NO);
            bound("game 1 # 0", 0, -1, NO);
        }
    }

    private static void bound(String call, int least, int most, String outside) {
        bound(call, least, most, outside, least, most);
    }

    /** Two spans are allowed; around them and far away it is refused. */
    private static void bound(String call, int least, int most, String outside, int from, int to) {
        Set<Integer> all = new LinkedHashSet<>();
        for (int near = -2; near <= 2; near++) {
            all.add(least + near);
            all.add(most + near);
            all.add(from + near);
            all.add(to + near);
        }
        for (int n : new int[] {Integer.MIN_VALUE, Integer.MAX_VALUE, 256, -256, 65536, 1 << 31 - 5}) {
            all.add(n);
        }
        for (int n : all) {
            if (n >= least && n <= most || n >= from && n <= to) {
                allowed(call, n, outside);
            } else {
                refused(call, n, outside);
            }
        }
    }

    private static void allowed(String call, int n, String outside) {
        PoetFines x = town();
        String asked = call.replace("#", "" + n);
        Object got = Checks.ask(x, asked);
        boolean taken = !String.valueOf(got).startsWith("throws");
        if (outside.equals(ACT) || outside.equals(FELT)) {
            taken &= !got.equals(-1);
            Checks.due(x, 0, "count", 13);
            Checks.due(x, 0, "count", 14);
        }
        // both of one game are one
        taken |= call.startsWith("game") && n == 0 && got.equals(WRONG);
        Checks.same(asked + " of " + text + " is allowed: " + got, taken, true);
    }

    private static void refused(String call, int n, String outside) {
        PoetFines x = town();
        String facts = Checks.facts(x);
        String asked = call.replace("#", "" + n);
        boolean none = outside.startsWith("-1");
        Checks.due(x, none ? -1 : outside, asked);
        Checks.same(asked + " changed the state " + text, Checks.facts(x), facts);
        Checks.due(x, 0, "count", 12);
        Checks.due(x, outside.equals(ACT) ? 1 : 0, "count", 13);
        Checks.due(x, outside.equals(FELT) ? 1 : 0, "count", 14);
        Checks.due(x, -1, "fault");
    }

    /** A year has gone by; twenty blanks are on the tape. */
    private static PoetFines town() {
        PoetFines x = Checks.town(text);
        Checks.due(x, 1, "years", 1);
        Checks.load(x, " ".repeat(20));
        return x;
    }

    /** "3 TOPICS, nobody": a new object's bounds are those of the empty text. */
    private static void asAtFirst() {
        PoetFines x = new PoetFines();
        for (String call : new String[] {"person 0 0", "person 0 10", "poet 0 0", "line 0 0 0", "burn 0", "rewrite 0 0 5",
            "pardon 0", "fill 0 5", "heal 0", "then 0 1 0", "poetThen 0 1 0", "hurt 0 0", "probe 0 0 0 0", "safe 0 0",
            "sonnet 0 0", "action 0", "readings 0", "feel 0 1 true", "accidents 0 1 5", "game 0 1 0", "jailed 0 1",
            "into 0 0 1", "plaintiff 0"}) {
            Checks.due(x, NO, call);
        }
        int[] counts = {3, 0, 0, 0, 0, 0, 0, 0, 0, 0, 0, 0, 0, 0, 0};
        for (int what = 0; what < 15; what++) {
            Checks.due(x, counts[what], "count", what);
        }
        Checks.due(x, -1, "fault");
    }

    /** "IllegalArgumentException (behind that)", "(behind NoSuchElementException)", "(ahead)". */
    private static void whichGoesAhead() {
        text = "topics 4;" + "person 1 1 1 1 1;".repeat(8) + ("poet 2" + " 3 9".repeat(6) + ";").repeat(4);
        for (String call : new String[] {"then 8 61 0", "then 0 61 3", "then -1 -1 -1", "poetThen 4 61 0", "poetThen 0 61 6",
            "later 61 5", "later -1 -1", "worst 0 2", "worst 61 -1", "best 0 2", "best 61 -1", "probe 4 0 4 0",
            "probe 0 8 4 0", "probe 4 0 0 10", "probe 0 8 0 10", "safe 4 4", "safe -1 -1", "accidents 8 0 5",
            "accidents 8 1 11", "game 4 4 0", "game 0 4 0", "game 4 0 0", "game 0 0 2", "game 0 0 -1", "decades 1 61 3",
            "decades 1 -1 -1", "jailed 4 61", "into 8 0 61", "into 0 4 61", "rewrite 4 0 10", "rewrite 0 6 10",
            "rewrite 0 6 9", "fill 8 100", "fill -1 1", "feel 8 21 true", "feel 8 0 false", "line 4 0 5", "line 0 6 5",
            "person 8 3", "poet 4 5", "sonnet 4 2", "sonnet 4 0"}) {
            PoetFines x = town();
            Checks.due(x, NO, call);
            for (int status = 12; status < 15; status++) {
                Checks.due(x, 0, "count", status);
            }
        }
        PoetFines x = town();
        Checks.due(x, WRONG, "game 0 0 0");
        Checks.due(x, WRONG, "game 3 3 1");
        Checks.due(x, WRONG, "accidents 0 0 11");
        Checks.due(x, WRONG, "probe 0 0 4 10");
        for (int k = 1; k <= 8; k++) {
            Checks.due(x, k, "feel", 0, 1, true);
        }
        Checks.due(x, NO, "feel 8 1 true");
        Checks.due(x, 0, "count", 14);
        Checks.due(x, -1, "feel 7 1 true");
        Checks.due(x, 1, "count", 14);
    }
}

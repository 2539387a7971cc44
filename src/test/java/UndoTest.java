/**
 * ACTS at their edges (promises 9 to 15), the image (38, 39): forty that are kept, each kind undone, what is refused
 * and what is asked leaves no trace but STATUS.
 */
public final class UndoTest {
    private static final String[] ACTS = {"years 1", "burn 0", "rewrite 0 0 #", "fill 1 #", "years 20", "heal 0",
        "rewrite 1 0 #", "pardon 0", "fill 0 #", "years 2"};
    /** Each with what it answers in the town that has lived, and which STATUS it is; 0 without. */
    private static final String[] REFUSED = {"years 0;-1;13", "years 21;-1;13", "years -1;-1;13", "burn 1;-1;13",
        "rewrite 0 0 10;-1;13", "rewrite 0 0 -1;-1;13", "rewrite 0 0 5;-1;13", "pardon 1;-1;13", "fill 0 100;-1;13",
        "fill 0 -1;-1;13", "fill 0 77;-1;13", "heal 2;-1;13", "feel 0 0 true;-1;14", "feel 0 21 false;-1;14",
        "state 1;IAE;0", "state -1;IAE;0", "count 15;NSE;0", "person 3 0;NSE;0", "person 0 12;NSE;0", "poet 2 0;NSE;0",
        "line 0 3 0;NSE;0", "burn 2;NSE;0", "rewrite 1 1 5;NSE;0", "pardon 2;NSE;0", "fill 3 5;NSE;0", "heal 3;NSE;0",
        "then 0 61 0;IAE;0", "poetThen 0 -1 0;IAE;0", "hurt 3 0;NSE;0", "later 61 0;IAE;0", "worst 0 0;IAE;0",
        "probe 0 0 2 0;IAE;0", "safe 0 2;IAE;0", "sonnet 0 2;NSE;0", "action 2;NSE;0", "readings 2;NSE;0",
        "best 61 0;IAE;0", "feel 3 1 true;NSE;0", "truths 3;NSE;0", "listen 2;NSE;0", "accidents 0 6 5;IAE;0",
        "game 0 0 0;IAE;0", "decades 5 61 0;IAE;0", "jailed 0 61;IAE;0", "into 0 0 61;IAE;0", "laureate 61;IAE;0",
        "plaintiff 3;NSE;0"};
    private static final String[] ASKED = {"fault", "count 4", "person 0 2", "poet 0 4", "line 0 0 3", "line 0 0 4",
        "then 0 60 0", "poetThen 0 60 3", "hurt 2 0", "hurt 0 1", "later 60 0", "later 60 4", "worst 60 0", "worst 60 1",
        "probe 0 0 0 9", "safe 0 0", "sonnet 0 1", "action 0", "readings -1", "readings 0", "best 60 0", "best 60 1",
        "truths 0", "truths 1", "truths 2", "listen 0", "listen 1", "accidents 0 5 5", "game 0 1 1", "decades 7 60 0",
        "jailed 0 60", "into 0 0 60", "laureate 60", "plaintiff 0"};

    public static void main(String[] args) {
        eachAct();
        greatestAnswers();
        burntLineIsThereAgain();
        yearsAtOnce();
        fortyAreKept();
        lessThanForty();
        nothingToUndo();
        imageOfForty();
        imageOfAll();
        anotherImage();
        restoreThenUndo();
        refusedLeavesNoTrace();
        askedLeavesNoTrace();
        refusedAtFull();
        lastYears();
        Checks.end();
    }

    /** "The last ACT is UNDONE": each kind of act changes what it says and nothing else. */
    private static void eachAct() {
        PoetFines x = lived();
        String facts = Checks.facts(x);
        for (String act : new String[] {"years 1", "years 20", "burn 0", "rewrite 0 2 9", "rewrite 0 2 1", "pardon 0",
            "fill 0 0", "fill 0 99", "heal 0"}) {
            Checks.same(act, (int) Checks.ask(x, act) >= 0, true);
            Checks.same(act + " changed something", Checks.facts(x).equals(facts), false);
            Checks.due(x, 3, "undo");
        }
        Checks.same("all undone", Checks.facts(x), facts);
        changes("burn 0", "poet 0 2", 2, 0);
        changes("rewrite 0 2 9", "line 0 2 1", 0, 9);
        changes("pardon 0", "poet 0 3", 1, 0);
        changes("fill 0 0", "person 0 0", 77, 0);
        changes("heal 0", "person 0 1", 3, 0);
    }

    /** The act answers what it was; of all facts it changes that one. */
    private static void changes(String act, String fact, int from, int to) {
        PoetFines x = lived();
        PoetFines y = lived();
        Checks.due(x, from, fact);
        Checks.due(x, act.startsWith("burn") ? 2 : from, act);
        Checks.due(x, to, fact);
        String[] all = {"count 3", "person 0 0", "person 0 1", "person 0 2", "person 1 0", "person 1 1", "person 2 0",
            "person 2 1", "poet 0 0", "poet 0 2", "poet 0 3", "poet 1 0", "poet 1 2", "poet 1 3", "line 0 0 1", "line 0 1 1",
            "line 0 2 1", "line 1 0 1", "count 10", "count 12", "count 13", "count 14"};
        for (String other : all) {
            if (!other.equals(fact)) {
                Checks.due(x, Checks.ask(y, other), other);
            }
        }
        Checks.due(x, 4, "count", 9);
    }

    /** What acts answer at their edges: a purse of more than can be filled, nine years, ninety-nine scars. */
    private static void greatestAnswers() {
        PoetFines x = Checks.town("person 99 1 0 0;person 99 0 0 0;poet 99 0 9;fines 20;buys 0;");
        Checks.due(x, 1, "years", 1);
        Checks.due(x, 119, "person", 0, 0);
        Checks.due(x, -1, "fill", 0, 119);
        Checks.due(x, -1, "fill", 0, 100);
        Checks.due(x, 119, "fill", 0, 99);
        Checks.due(x, -1, "fill", 0, 99);
        Checks.due(x, 99, "fill", 0, 0);
        Checks.due(x, -1, "fill", 0, 0);
        Checks.due(x, -1, "fill", 1, 99);
        Checks.due(x, 2, "undo");
        Checks.due(x, 1, "undo");
        Checks.due(x, 119, "person", 0, 0);
        Checks.due(x, 5, "count", 13);
        x = Checks.town("person 0 1 0 0;person 0 9 0 0;poet 0 0 9;poet 99 0 9;fines 20*(before<1)*(purse<1);buys 0;");
        Checks.due(x, 1, "years", 1);
        Checks.due(x, 9, "poet", 0, 3);
        Checks.due(x, 9, "pardon", 0);
        Checks.due(x, -1, "pardon", 0);
        Checks.due(x, 0, "poet", 0, 3);
        Checks.due(x, 20, "years", 19);
        Checks.due(x, 99, "person", 1, 1);
        Checks.due(x, 99, "heal", 1);
        Checks.due(x, -1, "heal", 1);
        Checks.due(x, 40, "heal", 0);
        Checks.due(x, 4, "undo");
        Checks.due(x, 40, "person", 0, 1);
    }

    /** "it isn't read now, the one behind is next, round (the LINE is there again when its turn comes)". */
    private static void burntLineIsThereAgain() {
        PoetFines x = Checks.town("person 0 1 2 3;poet 99 0 9 1 9 2 9;fines 0;");
        Checks.due(x, 0, "burn", 0);
        int[] scars = {0, 2, 5, 6, 8};
        for (int years = 0; years < scars.length; years++) {
            Checks.due(x, scars[years], "then", 0, years, 1);
        }
        Checks.due(x, 1, "burn", 0);
        Checks.due(x, 2, "burn", 0);
        Checks.due(x, 0, "burn", 0);
        Checks.due(x, 1, "poet", 0, 2);
        Checks.due(x, 3, "poet", 0, 1);
        // of two lines, round; of who sits
        x = Checks.town("person 0 1 0 0;poet 0 0 9 1 9;");
        Checks.due(x, 1, "years", 1);
        Checks.due(x, 1, "poet", 0, 3);
        Checks.due(x, 1, "burn", 0);
        Checks.due(x, 0, "burn", 0);
        Checks.due(x, 1, "burn", 0);
        Checks.due(x, 0, "poet", 0, 2);
        Checks.due(x, 1, "poet", 0, 3);
        Checks.due(x, 2, "hurt", 0, 0);
    }

    /** "YEARS go by (1 to 20)": twenty at once are one act, and as twenty of one each. */
    private static void yearsAtOnce() {
        for (int many = 1; many <= 20; many++) {
            PoetFines x = Checks.town(Checks.BASE + "fines scars/5+inches;buys purse-before;");
            PoetFines y = Checks.town(Checks.BASE + "fines scars/5+inches;buys purse-before;");
            Checks.due(x, many, "years", many);
            Checks.due(x, 1, "count", 9);
            for (int k = 1; k <= many; k++) {
                Checks.due(y, k, "years", 1);
            }
            Checks.same(many + " years", Checks.facts(x).replaceFirst("(count( \\d+){9}) \\d+", "$1"),
                Checks.facts(y).replaceFirst("(count( \\d+){9}) \\d+", "$1"));
            Checks.due(x, 0, "undo");
            Checks.due(x, 0, "count", 3);
            Checks.due(x, 14, "count", 4);
        }
    }

    /** "ACTS (at most 40 are kept, the latest ones)": of every kind; "The last ACT is UNDONE: how many are left". */
    private static void fortyAreKept() {
        for (int acts : new int[] {39, 40, 41, 42, 79, 80, 81, 97}) {
            PoetFines x = Checks.town(Checks.BASE);
            PoetFines[] shadow = new PoetFines[acts + 1];
            int done = 0;
            String[] row = new String[acts];
            for (int k = 0; done < acts; k++) {
                String act = ACTS[k % ACTS.length].replace("#", "" + (10 + k) % 10);
                Object got = Checks.ask(x, act);
                if (!got.equals(-1)) {
                    row[done] = act;
                    done++;
                    Checks.due(x, Math.min(done, 40), "count", 9);
                }
            }
            for (int left = Math.min(acts, 40) - 1; left >= 0; left--) {
                Checks.due(x, left, "undo");
                Checks.due(x, left, "count", 9);
                if (left % 7 == 0) {
                    int first = acts - Math.min(acts, 40) + left;
                    shadow[first] = Checks.town(Checks.BASE);
                    for (int k = 0; k < first; k++) {
                        Checks.ask(shadow[first], row[k]);
                    }
                    String own = Checks.facts(shadow[first]).replaceFirst("(count( \\d+){9}) \\d+", "$1 " + left);
                    Checks.same("behind " + first + " acts", Checks.facts(x), own);
                }
            }
            Checks.due(x, -1, "undo");
            Checks.due(x, 0, "count", 9);
        }
    }

    /** An act behind an undone one takes its place. */
    private static void lessThanForty() {
        PoetFines x = Checks.town(Checks.BASE);
        for (int k = 0; k < 43; k++) {
            Checks.due(x, k % 2 == 0 ? 5 : 6, "rewrite", 0, 0, k % 2 == 0 ? 6 : 5);
        }
        Checks.due(x, 39, "undo");
        Checks.due(x, 38, "undo");
        Checks.due(x, 0, "fill", 1, 11);
        Checks.due(x, 39, "count", 9);
        Checks.due(x, 11, "fill", 1, 22);
        Checks.due(x, 40, "count", 9);
        Checks.due(x, 22, "fill", 1, 33);
        Checks.due(x, 40, "count", 9);
        Checks.due(x, 39, "undo");
        Checks.due(x, 22, "person", 1, 0);
        Checks.due(x, 38, "undo");
        Checks.due(x, 11, "person", 1, 0);
        Checks.due(x, 37, "undo");
        Checks.due(x, 0, "person", 1, 0);
        Checks.due(x, 6, "line", 0, 0, 1);
        for (int left = 36; left >= 0; left--) {
            Checks.due(x, left, "undo");
            Checks.due(x, left % 2 == 0 ? 5 : 6, "line", 0, 0, 1);
        }
        Checks.due(x, -1, "undo");
        Checks.due(x, 5, "line", 0, 0, 1);
    }

    /** "NONE: there is none": no STATUS counts it. */
    private static void nothingToUndo() {
        for (PoetFines x : new PoetFines[] {new PoetFines(), Checks.town(Checks.BASE)}) {
            String facts = Checks.facts(x);
            Checks.due(x, -1, "undo");
            Checks.due(x, -1, "undo");
            Checks.same("as it was", Checks.facts(x), facts);
            for (int status = 12; status < 15; status++) {
                Checks.due(x, 0, "count", status);
            }
        }
        PoetFines x = Checks.town(Checks.BASE);
        Checks.due(x, 1, "years", 1);
        Checks.due(x, 0, "undo");
        Checks.due(x, -1, "undo");
        Checks.due(x, 0, "count", 3);
    }

    /** "ACTS .. are kept as an image": all forty, the oldest of them in the midst of the row. */
    private static void imageOfForty() {
        PoetFines x = Checks.town(Checks.BASE);
        for (int k = 1; k <= 47; k++) {
            Checks.due(x, k, "years", 1);
        }
        x.image();
        String facts = Checks.facts(x);
        for (int k = 0; k < 30; k++) {
            Checks.due(x, 39 - k, "undo");
        }
        Checks.due(x, 18, "years", 1);
        for (int k = 0; k < 11; k++) {
            Checks.due(x, 10 - k, "undo");
        }
        Checks.due(x, -1, "undo");
        for (int k = 0; k < 50; k++) {
            x.fill(0, k % 2 == 0 ? 98 : 97);
        }
        Checks.due(x, true, "restore");
        Checks.same("as the image", Checks.facts(x), facts);
        for (int left = 39; left >= 0; left--) {
            Checks.due(x, left, "undo");
            Checks.due(x, left + 7, "count", 3);
        }
        Checks.due(x, -1, "undo");
        Checks.due(x, true, "restore");
        Checks.due(x, 40, "count", 9);
        Checks.due(x, 39, "undo");
        Checks.due(x, 46, "count", 3);
    }

    /** "The YEAR, PURSES, SCARS, who was HIT how often, LINES that are next, DEPTHS, who SITS, ACTS and what is FELT". */
    private static void imageOfAll() {
        PoetFines x = lived();
        PoetFines y = lived();
        y.image();
        Checks.due(x, -1, "years", 0);
        x.image();
        for (String act : new String[] {"pardon 0", "years 3", "fill 2 1", "heal 1", "burn 0", "rewrite 1 0 7",
            "feel 0 2 true", "feel 2 2 true", "years 1"}) {
            Checks.same(act, (int) Checks.ask(x, act) >= 0, true);
        }
        x.forget();
        Checks.due(x, 1, "feel", 2, 20, true);
        // "(STATUS stays)" is of state(); an image has no STATUS, no tape, no fault either
        Checks.due(x, -1, "feel", 2, 0, true);
        Checks.due(x, 2, "state", Checks.load(x, "topics 9;"));
        Checks.load(x, "x");
        Checks.due(x, true, "restore");
        Checks.due(x, 20, "count", 11);
        Checks.due(x, 7, "fault");
        Checks.due(x, 1, "count", 12);
        Checks.due(x, 1, "count", 13);
        Checks.due(x, 1, "count", 14);
        Checks.due(x, 1, "state", 20);
        sameStory("restored", x, y);
    }

    /** "kept as an image, in place of another one". */
    private static void anotherImage() {
        PoetFines x = Checks.town(Checks.BASE);
        for (int k = 0; k < 5; k++) {
            Checks.due(x, 3 * k + 1, "years", 1);
            x.image();
            Checks.due(x, 3 * k + 3, "years", 2);
            Checks.due(x, true, "restore");
            Checks.due(x, 3 * k + 1, "count", 3);
            Checks.due(x, true, "restore");
            Checks.due(x, 3 * k + 1, "count", 3);
            Checks.due(x, 3 * k + 3, "years", 2);
        }
        x.image();
        Checks.due(x, 0, "state", Checks.load(x, Checks.BASE));
        // "the image [is] gone"
        Checks.due(x, false, "restore");
        Checks.due(x, 0, "count", 3);
        x.image();
        Checks.due(x, 1, "years", 1);
        Checks.due(x, true, "restore");
        Checks.due(x, 0, "count", 3);
        // a text with a fault leaves it
        Checks.due(x, 1, "state", Checks.load(x, "x"));
        Checks.due(x, true, "restore");
        // an image of nobody
        x = new PoetFines();
        Checks.due(x, false, "restore");
        x.image();
        Checks.due(x, 20, "years", 20);
        Checks.due(x, true, "restore");
        Checks.due(x, 0, "count", 3);
        Checks.due(x, -1, "undo");
    }

    private static void restoreThenUndo() {
        PoetFines x = Checks.town(Checks.BASE);
        x.fill(0, 1);
        x.fill(0, 2);
        x.image();
        x.fill(0, 3);
        x.undo();
        x.undo();
        x.fill(0, 4);
        x.fill(0, 5);
        x.fill(0, 6);
        Checks.due(x, true, "restore");
        Checks.due(x, 2, "person", 0, 0);
        Checks.due(x, 1, "undo");
        Checks.due(x, 1, "person", 0, 0);
        x.fill(0, 7);
        Checks.due(x, 1, "undo");
        Checks.due(x, 0, "undo");
        Checks.due(x, 5, "person", 0, 0);
        // the image is as it was
        Checks.due(x, true, "restore");
        Checks.due(x, 2, "person", 0, 0);
        Checks.due(x, 1, "undo");
        Checks.due(x, 0, "undo");
        Checks.due(x, 5, "person", 0, 0);
    }

    /** "NONE (STATUS 1)", "NONE (STATUS 2)", exceptions: nothing changes but that STATUS. */
    private static void refusedLeavesNoTrace() {
        for (String row : REFUSED) {
            String[] parts = row.split(";");
            PoetFines x = lived();
            Object due = parts[1].equals("NSE") ? Checks.NO_SUCH : parts[1].equals("IAE") ? Checks.WRONG : (Object) (-1);
            Checks.due(x, due, parts[0]);
            Checks.due(x, due, parts[0]);
            for (int status = 12; status < 15; status++) {
                Checks.due(x, parts[2].equals("" + status) ? 2 : 0, "count", status);
            }
            sameStory(row, x, lived());
        }
        PoetFines x = Checks.town(Checks.BASE);
        Checks.due(x, false, "restore");
        Checks.due(x, -1, "undo");
        for (int status = 12; status < 15; status++) {
            Checks.due(x, 0, "count", status);
        }
        sameStory("nothing to restore", x, Checks.town(Checks.BASE));
    }

    private static void askedLeavesNoTrace() {
        for (String call : ASKED) {
            PoetFines x = lived();
            Object first = Checks.ask(x, call);
            Checks.due(x, first, call);
            Checks.same(call, String.valueOf(first).startsWith("throws"), false);
            sameStory(call, x, lived());
        }
        PoetFines x = lived();
        for (String call : ASKED) {
            Checks.ask(x, call);
        }
        sameStory("all that is asked", x, lived());
    }

    /** What acts and what is felt answer where there is no place for more. */
    private static void refusedAtFull() {
        PoetFines x = lived();
        for (int k = 3; k <= 8; k++) {
            Checks.due(x, k, "feel", k % 3, 5 + k, k % 2 == 0);
        }
        String facts = Checks.facts(x);
        Checks.due(x, -1, "feel", 0, 1, true);
        Checks.due(x, -1, "feel", 0, 21, true);
        Checks.due(x, Checks.NO_SUCH, "feel", 3, 1, true);
        Checks.due(x, 2, "count", 14);
        Checks.same("eight are felt", Checks.facts(x), facts);
        x.forget();
        Checks.due(x, 0, "count", 10);
        Checks.due(x, 2, "count", 14);
        x.forget();
        Checks.due(x, 0, "count", 10);
        Checks.due(x, 1, "feel", 0, 1, true);
    }

    /** "it would be above 9999": the last year can be reached, no further; what is foreseen goes on behind it. */
    private static void lastYears() {
        PoetFines x = Checks.town("person 0 0 0 0;poet 9 0 0;hits year=9999 or year=9999+2;fines 0;buys 0;");
        for (int k = 1; k <= 490; k++) {
            x.years(20);
        }
        Checks.due(x, 9800, "count", 3);
        x.image();
        Checks.due(x, -1, "hurt", 0, 0);
        for (int k = 1; k <= 9; k++) {
            x.years(20);
        }
        Checks.due(x, -1, "years", 20);
        Checks.due(x, 9980, "count", 3);
        Checks.due(x, 40, "count", 9);
        Checks.due(x, 1, "count", 13);
        Checks.due(x, 9999, "years", 19);
        Checks.due(x, 9999, "count", 3);
        Checks.due(x, -1, "years", 1);
        Checks.due(x, 9999, "count", 3);
        Checks.due(x, 1, "hurt", 0, 0);
        Checks.due(x, 2, "then", 0, 60, 2);
    }

    /** Acts are kept, an image, two are felt; a poet sits; who is third was healed. */
    private static PoetFines lived() {
        PoetFines x = Checks.town(Checks.BASE);
        x.years(2);
        x.feel(0, 1, true);
        x.image();
        x.feel(1, 2, false);
        x.fill(0, 77);
        x.heal(2);
        return x;
    }

    /** All that x and y answer from now on is alike, but STATUS. */
    private static void sameStory(String what, PoetFines x, PoetFines y) {
        Checks.same(what + " left a trace", tell(x), tell(y));
    }

    private static String tell(PoetFines x) {
        StringBuilder all = new StringBuilder(Checks.facts(x));
        for (String call : ASKED) {
            if (!call.equals("fault")) {
                all.append(", ").append(call).append(' ').append(Checks.ask(x, call));
            }
        }
        for (String call : new String[] {"undo", "undo", "undo", "restore"}) {
            all.append('\n').append(Checks.ask(x, call)).append(' ').append(Checks.facts(x));
        }
        return all.toString();
    }
}

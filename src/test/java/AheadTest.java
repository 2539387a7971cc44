/** Promises 16 to 20, 26 and 34 to 36: what is asked of years to come. */
public final class AheadTest {
    private static final String[] SPANS = {"then 0 # 0", "poetThen 0 # 0", "later # 0", "jailed 0 #", "into 0 0 #",
        "laureate #"};

    public static void main(String[] args) {
        bounds();
        thenAsActs();
        poetThen();
        lostPennies();
        paidButLost();
        hurt();
        later();
        worst();
        best();
        jailedIntoLaureate();
        Checks.end();
    }

    private static void bounds() {
        PoetFines x = Checks.town(Checks.BASE);
        for (String call : SPANS) {
            ask(x, call, Checks.WRONG, -1);
            ask(x, call, Checks.WRONG, 61);
        }
        for (int years : new int[] {0, -1, 61}) {
            Checks.due(x, Checks.WRONG, "worst", years, 0);
            Checks.due(x, Checks.WRONG, "best", years, 1);
            Checks.due(x, Checks.NO_SUCH, "worst", years, 2);
            Checks.due(x, Checks.NO_SUCH, "best", years, -1);
        }
        Checks.due(x, Checks.NO_SUCH, "then", 3, 61, 0);
        Checks.due(x, Checks.NO_SUCH, "then", 0, 61, 3);
        Checks.due(x, Checks.NO_SUCH, "then", 0, 1, -1);
        Checks.due(x, Checks.NO_SUCH, "poetThen", 2, 61, 0);
        Checks.due(x, Checks.NO_SUCH, "poetThen", 0, 61, 6);
        Checks.due(x, Checks.NO_SUCH, "poetThen", 0, 1, -1);
        Checks.due(x, Checks.NO_SUCH, "later", 61, 5);
        Checks.due(x, Checks.NO_SUCH, "later", 1, -1);
        Checks.due(x, Checks.NO_SUCH, "hurt", 3, 0);
        Checks.due(x, Checks.NO_SUCH, "hurt", 0, 2);
        Checks.due(x, Checks.NO_SUCH, "jailed", 2, 61);
        Checks.due(x, Checks.NO_SUCH, "into", 3, 0, 61);
        Checks.due(x, Checks.NO_SUCH, "into", 0, 2, 61);
        Checks.due(x, Checks.NO_SUCH, "into", 0, -1, 1);
    }

    private static void ask(PoetFines x, String call, Object due, int years) {
        String[] words = call.split(" ");
        Object[] args = new Object[words.length - 1];
        for (int k = 0; k < args.length; k++) {
            args[k] = words[k + 1].equals("#") ? years : Integer.parseInt(words[k + 1]);
        }
        Checks.due(x, due, words[0], args);
    }

    /** What is foreseen is what comes, and foreseeing changes nothing. */
    private static void thenAsActs() {
        PoetFines x = Checks.town(Checks.BASE);
        PoetFines y = Checks.town(Checks.BASE);
        for (int k = 0; k <= 3; k++) {
            for (int p = 0; p < 3; p++) {
                for (int what = 0; what < 3; what++) {
                    Checks.due(x, y.person(p, what), "then", p, 20 * k, what);
                }
            }
            for (int p = 0; p < 2; p++) {
                Checks.due(x, y.poet(p, 0), "poetThen", p, 20 * k, 0);
                Checks.due(x, y.poet(p, 2), "poetThen", p, 20 * k, 1);
                Checks.due(x, y.poet(p, 3), "poetThen", p, 20 * k, 2);
            }
            Checks.due(x, y.count(8), "later", 20 * k, 2);
            Checks.due(x, y.count(7), "later", 20 * k, 3);
            y.years(20);
        }
        Checks.due(x, 0, "count", 3);
        Checks.due(x, 14, "count", 4);
        Checks.due(x, 0, "count", 9);
        // how often hit counts what has been
        x.years(2);
        Checks.due(x, x.person(2, 2), "then", 2, 0, 2);
    }

    private static void poetThen() {
        PoetFines x = Checks.town(Checks.BASE);
        int[][] due = {{4, 0, 0, 0, 0, 0}, {1, 1, 0, 5, 2, 1}, {0, 2, 1, 9, 5, 2}, {0, 2, 0, 9, 5, 2}};
        for (int years = 0; years < due.length; years++) {
            for (int what = 0; what < 6; what++) {
                Checks.due(x, due[years][what], "poetThen", 0, years, what);
            }
        }
        // paid and earned count from now on
        x.years(1);
        Checks.due(x, 4, "poetThen", 0, 1, 3);
        Checks.due(x, 3, "poetThen", 0, 1, 4);
        Checks.due(x, 1, "poetThen", 0, 1, 5);
    }

    /** A poet has 999 at most; what comes beyond that is lost. */
    private static void lostPennies() {
        PoetFines x = Checks.town("person 99 0 0 0;".repeat(8) + "poet 99 0 0;");
        for (int k = 0; k < 5; k++) {
            x.years(20);
        }
        Checks.due(x, 891, "poet", 0, 0);
        Checks.due(x, 0, "count", 4);
        for (int p = 0; p < 8; p++) {
            x.fill(p, 99);
        }
        Checks.due(x, 995, "poetThen", 0, 13, 0);
        Checks.due(x, 999, "poetThen", 0, 14, 0);
        Checks.due(x, 999, "poetThen", 0, 20, 0);
        Checks.due(x, 108, "poetThen", 0, 20, 4);
        Checks.due(x, 79, "then", 0, 20, 0);
    }

    /** A person has 999 at most; what comes beyond that is lost, but paid. */
    private static void paidButLost() {
        PoetFines x = Checks.town("person 99 9 0 0;" + "person 99 0 0 0;".repeat(7) + "poet 99 0 9;".repeat(4)
            + "buys before=0;");
        int paid = 0;
        int earned = 0;
        for (int poet = 0; poet < 4; poet++) {
            paid += x.poetThen(poet, 60, 3);
            earned += x.poetThen(poet, 60, 4);
            Checks.due(x, 0, "poetThen", poet, 60, 0);
        }
        // the first person buys once of each, the others till nothing is left, and all of it is paid
        Checks.same("earned", earned, 4 + 7 * 99);
        Checks.same("paid", paid, 4 * 99 + 4 + 7 * 99);
        Checks.due(x, 999, "then", 0, 60, 0);
        Checks.due(x, 0, "then", 7, 60, 0);
    }

    private static void hurt() {
        PoetFines x = Checks.town(Checks.BASE);
        Checks.due(x, 1, "hurt", 0, 0);
        Checks.due(x, 2, "hurt", 1, 0);
        Checks.due(x, 1, "hurt", 2, 0);
        Checks.due(x, -1, "hurt", 0, 1);
        Checks.due(Checks.town("person 0 0 0 0;poet 0 0 0;hits year=59;"), 60, "hurt", 0, 0);
        Checks.due(Checks.town("person 0 0 0 0;poet 0 0 0;hits year=60;"), -1, "hurt", 0, 0);
        // from now on, whatever has been
        x = Checks.town("person 0 1 0 0;poet 99 0 1 1 1 1 1;");
        Checks.due(x, 1, "hurt", 0, 0);
        x.years(1);
        Checks.due(x, 3, "hurt", 0, 0);
    }

    private static void later() {
        PoetFines x = Checks.town(Checks.BASE);
        Checks.due(x, 2, "later", 0, 0);
        Checks.due(x, 0, "later", 0, 1);
        Checks.due(x, 0, "later", 0, 2);
        Checks.due(x, 7, "later", 0, 3);
        Checks.due(x, 0, "later", 0, 4);
        Checks.due(x, 1, "later", 2, 2);
        Checks.due(x, 7, "later", 1, 4);
        x = Checks.town("person 3 0 0 0;person 5 0 0 0;person 5 0 0 0;poet 3 0 1;poet 2 0 1;poet 2 0 1;buys 0;");
        Checks.due(x, 1, "later", 9, 0);
        Checks.due(x, 1, "later", 9, 1);
        Checks.due(x, 7, "later", 60, 3);
        Checks.due(x, 0, "later", 60, 4);
        // only who is hit from now on
        x = Checks.town("person 0 1 0 0;person 0 0 1 0;poet 9 0 1 1 1;");
        Checks.due(x, 1, "later", 1, 4);
        Checks.due(x, 3, "later", 2, 4);
        x.years(1);
        Checks.due(x, 2, "later", 1, 4);
        Checks.due(x, 0, "later", 0, 4);
        x = new PoetFines();
        int[] nobody = {-1, -1, 0, 0, 0};
        for (int what = 0; what < 5; what++) {
            Checks.due(x, nobody[what], "later", 3, what);
        }
    }

    private static void worst() {
        PoetFines x = Checks.town("person 0 1 7 0;poet 50 0 1 2 1 1 5 2 9;");
        Checks.due(x, 1, "worst", 1, 0);
        Checks.due(x, 1, "worst", 2, 0);
        Checks.due(x, 5, "worst", 3, 0);
        Checks.due(x, 5, "worst", 60, 0);
        Checks.due(x, 0, "worst", 1, 1);
        Checks.due(x, 1, "worst", 2, 1);
        Checks.due(x, 1, "worst", 3, 1);
        Checks.due(x, 2, "worst", 4, 1);
        Checks.due(new PoetFines(), 0, "worst", 60, 0);
        Checks.due(new PoetFines(), 60, "worst", 60, 1);
    }

    private static void best() {
        // a pardon brings scars, by which another poet pays more
        PoetFines x = Checks.town("person 0 9 0 0;poet 0 0 9;poet 50 0 9;fines scars+1;buys 0;");
        Checks.due(x, -1, "best", 1, 0);
        x.years(1);
        Checks.due(x, 1, "poet", 0, 3);
        Checks.due(x, 0, "best", 1, 0);
        Checks.due(x, 29, "then", 0, 1, 0);
        // burning: a line that hits less, or nobody, comes ahead
        x = Checks.town("person 0 9 0 0;poet 99 0 5 0 1;poet 99 0 7 0 1 0 1;poet 99 0 7;buys 0;");
        Checks.due(x, 1, "best", 1, 1);
        Checks.due(x, 1, "best", 2, 1);
        x = Checks.town("person 0 9 0 0;poet 99 0 5 0 1;poet 99 0 5 0 1;buys 0;");
        Checks.due(x, 0, "best", 1, 1);
        Checks.due(x, -1, "best", 2, 1);
        x = Checks.town("person 0 9 0 0;poet 99 0 1 0 5;buys 0;");
        Checks.due(x, -1, "best", 1, 1);
        Checks.due(new PoetFines(), -1, "best", 60, 0);
        Checks.due(new PoetFines(), -1, "best", 60, 1);
    }

    private static void jailedIntoLaureate() {
        PoetFines x = Checks.town("person 0 3 0 0;person 0 2 2 0;poet 0 0 9;poet 9 1 9;buys 0;");
        // the first one lacks 3, then sits for three years
        int[] jailed = {0, 0, 1, 2, 3, 3, 4};
        for (int years = 0; years < jailed.length; years++) {
            Checks.due(x, jailed[years], "jailed", 0, years);
        }
        Checks.due(x, 0, "jailed", 1, 4);
        Checks.due(x, 0, "into", 0, 0, 0);
        Checks.due(x, 3, "into", 0, 0, 4);
        Checks.due(x, 6, "into", 0, 0, 5);
        Checks.due(x, 4, "into", 1, 0, 5);
        Checks.due(x, 0, "into", 0, 1, 5);
        Checks.due(x, 4, "into", 1, 1, 2);
        Checks.due(x, 0, "laureate", 0);
        Checks.due(x, 0, "laureate", 3);
        // inches go in, even if there is no place for scars
        x = Checks.town("person 0 9 0 0;poet 0 0 9;poet 0 1 9;fines 0;");
        Checks.due(x, 540, "into", 0, 0, 60);
        Checks.due(x, 0, "laureate", 60);
        x = Checks.town("person 0 3 0 0;poet 9 0 3;poet 9 0 2;poet 9 0 2;buys 0;");
        Checks.due(x, 1, "laureate", 1);
        Checks.due(new PoetFines(), -1, "laureate", 5);
    }
}

/** Promises 5 to 8, 21 to 25 and 37: what is asked of the state as it is now. */
public final class NowTest {
    public static void main(String[] args) {
        count();
        personPoetLine();
        rulesNow();
        probeAndSafe();
        sonnet();
        action();
        readings();
        plaintiff();
        Checks.end();
    }

    private static void count() {
        PoetFines x = Checks.town(Checks.BASE);
        int[] atFirst = {2, 3, 2, 0, 14, 24, 0, 7, 0, 0, 0, 0, 0, 0, 0};
        for (int what = 0; what < atFirst.length; what++) {
            Checks.due(x, atFirst[what], "count", what);
        }
        Checks.due(x, Checks.NO_SUCH, "count", -1);
        Checks.due(x, Checks.NO_SUCH, "count", 15);
        Checks.due(x, 2, "years", 2);
        // the second line of the first poet lacked a penny for the last one
        int[] then = {2, 3, 2, 2, 17, 21, 14, 0, 1, 1, 0, 0, 0, 0, 0};
        Checks.due(x, 1, "poet", 0, 3);
        for (int what = 0; what < then.length; what++) {
            Checks.due(x, then[what], "count", what);
        }
    }

    private static void personPoetLine() {
        PoetFines x = Checks.town(Checks.BASE);
        Checks.due(x, 9, "person", 2, 0);
        Checks.due(x, 0, "person", 2, 1);
        Checks.due(x, 0, "person", 2, 2);
        Checks.due(x, 3, "person", 0, 10);
        Checks.due(x, 4, "person", 1, 11);
        Checks.due(x, 1, "years", 1);
        Checks.due(x, 3, "person", 2, 1);
        Checks.due(x, 2, "person", 2, 2);
        Checks.due(x, 1, "person", 1, 2);
        for (int what : new int[] {-1, 3, 9, 12, Integer.MIN_VALUE, Integer.MAX_VALUE}) {
            Checks.due(x, Checks.NO_SUCH, "person", 0, what);
        }
        Checks.due(x, Checks.NO_SUCH, "person", 3, 0);
        Checks.due(x, Checks.NO_SUCH, "person", -1, 0);
        Checks.due(x, 0, "undo");

        int[] poet = {4, 3, 0, 0, 5};
        for (int what = 0; what < poet.length; what++) {
            Checks.due(x, poet[what], "poet", 0, what);
        }
        Checks.due(x, 6, "poet", 1, 4);
        Checks.due(x, Checks.NO_SUCH, "poet", 2, 0);
        Checks.due(x, Checks.NO_SUCH, "poet", -1, 0);
        Checks.due(x, Checks.NO_SUCH, "poet", 0, 5);
        Checks.due(x, Checks.NO_SUCH, "poet", 0, -1);

        int[][] lines = {{0, 5, 1, 5, 5}, {1, 3, 0, 5, 5}, {0, 0, 0, 0, 0}};
        for (int line = 0; line < 3; line++) {
            for (int what = 0; what < 5; what++) {
                Checks.due(x, lines[line][what], "line", 0, line, what);
            }
        }
        Checks.due(x, 1, "line", 1, 0, 2);
        Checks.due(x, Checks.NO_SUCH, "line", 2, 0, 0);
        Checks.due(x, Checks.NO_SUCH, "line", 0, 3, 0);
        Checks.due(x, Checks.NO_SUCH, "line", 1, 1, 0);
        Checks.due(x, Checks.NO_SUCH, "line", 0, -1, 0);
        Checks.due(x, Checks.NO_SUCH, "line", 0, 0, 5);
        Checks.due(x, Checks.NO_SUCH, "line", 0, 0, -1);
    }

    private static void rulesNow() {
        // the purse of a hit's fine is the poet's, each person asked by what is so now
        PoetFines x = Checks.town("person 2 1 0 0;person 3 1 0 0;poet 7 0 1 0 2 1 1;fines purse+10*rhymes;");
        Checks.due(x, 14, "line", 0, 0, 3);
        Checks.due(x, 34, "line", 0, 1, 3);
        Checks.due(x, 0, "line", 0, 2, 3);
        // fines are kept to 0 to 20, inches to 0 to 9
        x = Checks.town("person 2 1 0 0;poet 7 0 1;hits 99;fines 21*inches;");
        Checks.due(x, 20, "line", 0, 0, 3);
        Checks.due(x, 9, "line", 0, 0, 4);
        x = Checks.town("person 2 1 0 0;poet 7 0 1;fines 0-inches;");
        Checks.due(x, 0, "line", 0, 0, 3);
        Checks.due(x, 1, "line", 0, 0, 4);
    }

    private static void probeAndSafe() {
        PoetFines x = Checks.town(Checks.BASE);
        Checks.due(x, 3, "probe", 0, 0, 0, 9);
        Checks.due(x, 1, "probe", 0, 0, 0, 1);
        Checks.due(x, 4, "probe", 1, 1, 1, 9);
        Checks.due(x, Checks.NO_SUCH, "probe", 2, 0, 0, 0);
        Checks.due(x, Checks.NO_SUCH, "probe", 0, 3, 9, 99);
        Checks.due(x, Checks.NO_SUCH, "probe", -1, 0, 0, 0);
        Checks.due(x, Checks.WRONG, "probe", 0, 0, 2, 0);
        Checks.due(x, Checks.WRONG, "probe", 0, 0, -1, 0);
        Checks.due(x, Checks.WRONG, "probe", 0, 0, 0, 10);
        Checks.due(x, Checks.WRONG, "probe", 0, 0, 0, -1);
        Checks.due(x, 0, "safe", 0, 0);
        Checks.due(x, Checks.NO_SUCH, "safe", 2, 9);
        Checks.due(x, Checks.WRONG, "safe", 0, 2);
        Checks.due(x, Checks.WRONG, "safe", 0, -1);
        safe("depth-4", 4);
        safe("5-depth", -1);
        safe("depth=3", 2);
        safe("0", 9);
        safe("true-3", 9);
        Checks.due(Checks.town("poet 1 0 1;hits 9;"), 9, "safe", 0, 2);
    }

    private static void safe(String hits, int due) {
        Checks.due(Checks.town("person 1 2 3 2;poet 1 0 1;hits " + hits + ";"), due, "safe", 0, 1);
    }

    private static void sonnet() {
        String lines = "person 0 5 3 2;poet 5 0 5 1 3 2 2 1 3";
        sonnet(lines + ";", 5, 1);
        sonnet("person 0 5 3 2;poet 8 0 5 1 3 2 2 1 3;", 8, 3);
        sonnet("person 0 5 3 2;poet 12 0 5 1 3 2 2 1 3;", 11, 11);
        sonnet("person 0 5 3 2;poet 1 0 5 1 3 2 2 1 3;", 0, 0);
        // all lines that hit, and none that hits nobody
        sonnet("person 0 5 3 2;poet 0 0 5 1 0 2 2 1 3;fines 0;", 10, 13);
        sonnet("poet 5 0 5;", 0, 0);
        PoetFines x = Checks.town(Checks.BASE);
        Checks.due(x, 2, "sonnet", 1, 0);
        Checks.due(x, Checks.NO_SUCH, "sonnet", 2, 0);
        Checks.due(x, Checks.NO_SUCH, "sonnet", 0, 2);
        Checks.due(x, Checks.NO_SUCH, "sonnet", 0, -1);
    }

    private static void sonnet(String text, int inches, int bits) {
        PoetFines x = Checks.town(text);
        Checks.due(x, inches, "sonnet", 0, 0);
        Checks.due(x, bits, "sonnet", 0, 1);
    }

    private static void action() {
        String people = "person 0 1 0 0;person 0 5 0 0;person 0 5 0 0;";
        Checks.due(Checks.town(people + "poet 4 0 9;"), 2, "action", 0);
        Checks.due(Checks.town(people + "poet 6 0 9;"), 6, "action", 0);
        Checks.due(Checks.town(people + "poet 10 0 9;"), 7, "action", 0);
        Checks.due(Checks.town(people + "poet 11 0 9;"), -1, "action", 0);
        // by all lines of the poet
        Checks.due(Checks.town(people + "poet 11 0 9 0 1;"), 6, "action", 0);
        Checks.due(Checks.town("poet 0 0 9;"), -1, "action", 0);
        Checks.due(Checks.town(people), Checks.NO_SUCH, "action", 0);
        Checks.due(Checks.town(people), Checks.NO_SUCH, "action", -1);
    }

    private static void readings() {
        PoetFines x = Checks.town(Checks.BASE);
        rows(x, 4, 0, 1);
        Checks.due(x, Checks.NO_SUCH, "readings", 2);
        Checks.due(x, Checks.NO_SUCH, "readings", -2);
        // whom one would choose alone is not what is most for all
        rows(Checks.town("topics 2;person 0 5 5;person 0 4 1;poet 9 0 9;poet 9 1 9;"), 9, 1, 0);
        // more poets than people: to nobody is behind all
        rows(Checks.town("person 0 4 0 0;poet 0 0 2;poet 0 0 3;"), 3, -1, 0);
        rows(Checks.town("person 0 4 0 0;poet 0 0 3;poet 0 0 3;"), 3, 0, -1);
        // who hits nobody reads all the same
        rows(Checks.town("person 0 0 0 0;person 0 0 0 0;poet 0 0 5;poet 0 0 5;"), 0, 0, 1);
        rows(Checks.town("poet 0 0 5;"), 0, -1);
        // the first one sits
        x = Checks.town("person 0 4 0 0;poet 0 0 2;poet 9 0 1;");
        Checks.due(x, 1, "years", 1);
        rows(x, 1, -1, 0);
        rows(Checks.town("person 0 1 0 0;"), 0);
    }

    private static void rows(PoetFines x, int sum, int... row) {
        Checks.due(x, sum, "readings", -1);
        for (int poet = 0; poet < row.length; poet++) {
            Checks.due(x, row[poet], "readings", poet);
        }
    }

    private static void plaintiff() {
        PoetFines x = Checks.town("person 0 5 5 0;person 0 0 0 0;poet 0 0 2;poet 0 0 2 1 1;poet 0 0 3;");
        Checks.due(x, 1, "plaintiff", 0);
        Checks.due(x, -1, "plaintiff", 1);
        Checks.due(x, Checks.NO_SUCH, "plaintiff", 2);
        Checks.due(x, Checks.NO_SUCH, "plaintiff", -1);
        Checks.due(Checks.town("person 0 5 5 5;"), -1, "plaintiff", 0);
        Checks.due(Checks.town("person 0 5 5 5;poet 1 0 2;fines 0;"), -1, "plaintiff", 0);
    }
}

/** Promises 27 to 33: what is felt and what it tells, accidents, a game, decades by a seed. */
public final class GuessTest {
    public static void main(String[] args) {
        feel();
        truths();
        listen();
        accidents();
        game();
        decades();
        decadesWithoutSome();
        Checks.end();
    }

    private static void feel() {
        PoetFines x = Checks.town(Checks.BASE);
        Checks.due(x, Checks.NO_SUCH, "feel", 3, 21, true);
        Checks.due(x, Checks.NO_SUCH, "feel", -1, 1, true);
        Checks.due(x, -1, "feel", 0, 0, true);
        Checks.due(x, -1, "feel", 0, 21, false);
        for (int k = 1; k <= 8; k++) {
            Checks.due(x, k, "feel", 0, k == 1 ? 1 : 20, true);
        }
        Checks.due(x, -1, "feel", 0, 1, true);
        Checks.due(x, Checks.NO_SUCH, "feel", 3, 1, true);
        Checks.due(x, 8, "count", 10);
        Checks.due(x, 3, "count", 14);
        Checks.due(x, 0, "count", 13);
        Checks.due(x, 0, "count", 9);
        x.forget();
        Checks.due(x, 0, "count", 10);
        Checks.due(x, 1, "feel", 0, 1, true);
    }

    private static void truths() {
        PoetFines x = Checks.town("person 0 0 0 0;poet 5 0 4;");
        told(x, 27, 1, 1);
        x.feel(0, 1, true);
        told(x, 9, 1, 0);
        x.feel(0, 1, false);
        told(x, 0, -1, 0);
        x.forget();
        x.feel(0, 20, false);
        // it sits in some of these years, so some numbers would hit nobody in the last one
        Checks.due(x, 1, "truths", 2);
        // the second person, the third topic: a line of the second year
        x = Checks.town("person 0 1 1 0;person 0 1 1 0;poet 50 0 2 2 3;buys 0;");
        x.feel(1, 2, true);
        told(x, 9, 121, 0);
        x.feel(0, 1, true);
        told(x, 9, 121, 0);
        x.feel(0, 1, false);
        told(x, 0, -1, 0);
        // years count from now: what is felt stays, the years go by
        x.forget();
        x.feel(1, 2, true);
        x.years(1);
        told(x, 2 * 3 * 9 - 1, 0, 1);
        // what is true has not changed
        Checks.due(x, 1, "person", 1, 11);
        Checks.due(x, 0, "person", 1, 12);
        // a rule by which it makes no difference
        x = Checks.town("person 0 4 4 4;poet 9 0 1;hits 1;fines 0;");
        x.feel(0, 20, true);
        told(x, 27, 0, 1);
        x.feel(0, 19, false);
        told(x, 0, -1, 0);
        // one by which it is all that counts
        x = Checks.town("person 0 0 0 0;poet 9 2 1;hits true;fines 0;");
        x.feel(0, 5, true);
        told(x, 9, 21, 0);
        told(new PoetFines(), 0, -1, 1);
        Checks.due(x, Checks.NO_SUCH, "truths", 3);
        Checks.due(x, Checks.NO_SUCH, "truths", -1);
    }

    private static void told(PoetFines x, int many, int first, int without) {
        Checks.due(x, many, "truths", 0);
        Checks.due(x, first, "truths", 1);
        Checks.due(x, without, "truths", 2);
    }

    private static void listen() {
        // by 1, 2, 3, 4 or more that are true the scars are 5, 10, 9, 12: the poet sits more and more
        PoetFines x = Checks.town("person 0 0 0 0;poet 5 0 4;");
        x.feel(0, 1, true);
        Checks.due(x, 0, "listen", 0);
        Checks.due(x, 4, "listen", 1);
        x.feel(0, 1, false);
        Checks.due(x, -1, "listen", 0);
        Checks.due(x, 0, "listen", 1);
        // without anything felt all numbers count: 0 to 9 but 3, each five times; 4 for who is 4
        x = Checks.town("topics 2;person 0 0 4;person 0 3 4;poet 99 0 9;fines 0;buys 0;");
        Checks.due(x, 0, "listen", 0);
        Checks.due(x, 10, "listen", 1);
        // what is felt of a year behind the fifth counts too
        x.feel(0, 6, true);
        Checks.due(x, 0, "listen", 0);
        Checks.due(x, 9, "listen", 1);
        x.forget();
        x.feel(0, 6, false);
        Checks.due(x, 1, "listen", 0);
        Checks.due(x, 10, "listen", 1);
        // the last of eight: five times each number, for the others 0 alone as soon as they felt nothing
        String seven = "person 0 0 0 0;".repeat(7);
        x = Checks.town(seven + "person 0 5 0 0;poet 0 0 9;fines 0;");
        Checks.due(x, 0, "listen", 0);
        Checks.due(x, 10, "listen", 1);
        for (int person = 0; person < 7; person++) {
            x.feel(person, 1, false);
        }
        Checks.due(x, 7, "listen", 0);
        Checks.due(x, 10, "listen", 1);
        // many scars: 45 and five times each number
        x = Checks.town("person 0 0 0 0;poet 0 0 9;poet 0 1 0;fines 0;hits depth+true;");
        Checks.due(x, 10, "listen", 1);
        Checks.due(new PoetFines(), -1, "listen", 0);
        Checks.due(new PoetFines(), 0, "listen", 1);
        Checks.due(x, Checks.NO_SUCH, "listen", 2);
        Checks.due(x, Checks.NO_SUCH, "listen", -1);
    }

    private static void accidents() {
        PoetFines x = Checks.town("person 0 3 0 0;person 0 0 3 0;poet 99 0 0;");
        Checks.due(x, 512, "accidents", 0, 3, 2);
        Checks.due(x, 7, "accidents", 0, 1, 3);
        Checks.due(x, 100000, "accidents", 0, 5, 0);
        Checks.due(x, 0, "accidents", 0, 5, 10);
        Checks.due(x, 100000, "accidents", 1, 5, 10);
        Checks.due(x, Checks.NO_SUCH, "accidents", 2, 6, 11);
        Checks.due(x, Checks.WRONG, "accidents", 0, 0, 5);
        Checks.due(x, Checks.WRONG, "accidents", 0, 6, 5);
        Checks.due(x, Checks.WRONG, "accidents", 0, 1, 11);
        Checks.due(x, Checks.WRONG, "accidents", 0, 1, -1);
        // an accident of the first year alone lets the poet sit in the second, which is quiet then
        x = Checks.town("person 0 0 9 0;person 0 9 0 0;poet 0 0 0 1 1;fines 1;buys 0;");
        Checks.due(x, 0, "accidents", 0, 2, 0);
        Checks.due(x, 100, "accidents", 0, 2, 10);
        Checks.due(x, 30, "accidents", 0, 2, 3);
        // depths are as they were, and so are scars
        Checks.due(x, 0, "line", 0, 0, 1);
        x.years(2);
        Checks.due(x, 0, "accidents", 0, 1, 5);
    }

    private static void game() {
        // whoever burns has one reading less that costs a penny
        PoetFines x = Checks.town("person 0 1 0 0;poet 9 0 1 1 0 1 0;poet 9 0 1 1 0 1 0;buys 0;");
        Checks.due(x, 1, "game", 0, 1, 0);
        Checks.due(x, 11, "game", 0, 1, 1);
        // the other way round burning costs one more
        x = Checks.town("person 0 1 0 0;poet 9 1 0 0 1 1 0;poet 9 0 1 1 0 1 0;buys 0;");
        Checks.due(x, 1, "game", 0, 1, 0);
        Checks.due(x, 1, "game", 0, 1, 1);
        Checks.due(x, 10, "game", 1, 0, 1);
        // of one line it changes nothing
        x = Checks.town("person 0 1 0 0;poet 9 0 1;poet 9 0 1;");
        Checks.due(x, 4, "game", 0, 1, 0);
        Checks.due(x, 0, "game", 0, 1, 1);
        // one who burns sits less behind four years: 0 pence either way, but 3 for each year
        x = Checks.town("person 0 5 2 0;poet 0 2 0 2 0 2 0 0 5 1 2;poet 0 2 0;buys 0;");
        Checks.due(x, 5, "poetThen", 0, 4, 2);
        Checks.due(x, 2, "game", 0, 1, 0);
        Checks.due(x, 10, "game", 0, 1, 1);
        Checks.due(x, Checks.NO_SUCH, "game", 2, 2, 0);
        Checks.due(x, Checks.NO_SUCH, "game", 0, -1, 0);
        Checks.due(x, Checks.NO_SUCH, "game", 0, 0, 2);
        Checks.due(x, Checks.WRONG, "game", 1, 1, 0);
    }

    /** What is drawn is tested by FeltTest, against the same years as acts. */
    private static void decades() {
        PoetFines x = Checks.town(Checks.BASE);
        Checks.due(x, Checks.NO_SUCH, "decades", 1, 61, 3);
        Checks.due(x, Checks.NO_SUCH, "decades", 1, 1, -1);
        Checks.due(x, Checks.WRONG, "decades", 1, 61, 0);
        Checks.due(x, Checks.WRONG, "decades", 1, -1, 0);
        // only hits from now on are counted
        x.years(5);
        Checks.due(x, 0, "decades", 1, 0, 0);
    }

    private static void decadesWithoutSome() {
        PoetFines x = Checks.town("person 7 1 1 1;");
        Checks.due(x, 0, "decades", 3, 60, 0);
        Checks.due(x, 0, "decades", 3, 60, 1);
        Checks.due(x, 7, "decades", 3, 60, 2);
        x = Checks.town("poet 7 1 1;");
        Checks.due(x, 0, "decades", 3, 60, 0);
        Checks.due(x, 0, "decades", 3, 60, 2);
        Checks.due(new PoetFines(), 0, "decades", 3, 60, 1);
    }
}

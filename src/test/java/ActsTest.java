/** Promises 9 to 15, 38 and 39: acts, how they are undone, the image. */
public final class ActsTest {
    public static void main(String[] args) {
        years();
        lastYear();
        aYear();
        burn();
        rewrite();
        pardon();
        fill();
        heal();
        undo();
        fortyActs();
        image();
        Checks.end();
    }

    private static void years() {
        PoetFines x = Checks.town(Checks.BASE);
        for (int many : new int[] {0, -1, 21, Integer.MAX_VALUE, Integer.MIN_VALUE}) {
            Checks.due(x, -1, "years", many);
        }
        Checks.due(x, 5, "count", 13);
        Checks.due(x, 0, "count", 9);
        Checks.due(x, 20, "years", 20);
        Checks.due(x, 21, "years", 1);
        Checks.due(x, 2, "count", 9);
        Checks.due(x, 5, "count", 13);
    }

    private static void lastYear() {
        PoetFines x = new PoetFines();
        for (int k = 1; k < 500; k++) {
            x.years(20);
        }
        Checks.due(x, 9980, "count", 3);
        Checks.due(x, -1, "years", 20);
        Checks.due(x, 9999, "years", 19);
        Checks.due(x, -1, "years", 1);
        Checks.due(x, 2, "count", 13);
    }

    /** Each rule by what is so at one's turn; what lacks, and who has too much. */
    private static void aYear() {
        // the second hit finds the purse that the first one left
        PoetFines x = Checks.town("person 0 5 0 0;person 0 5 0 0;poet 7 0 9;hits purse;fines purse-1;");
        Checks.due(x, 1, "years", 1);
        Checks.due(x, 6, "person", 0, 0);
        Checks.due(x, 7, "person", 0, 1);
        Checks.due(x, 0, "person", 1, 0);
        Checks.due(x, 1, "person", 1, 1);
        Checks.due(x, 1, "poet", 0, 0);
        // scars of the hit itself and the year count from the next one on
        x = Checks.town("person 0 5 0 0;poet 50 0 9;fines scars+before+year;buys 0;");
        Checks.due(x, 2, "years", 2);
        Checks.due(x, 7, "person", 0, 0);
        // who buys does so by the purse of one's own, and only with a penny
        x = Checks.town("person 1 0 0 0;person 2 0 0 0;person 0 0 0 0;poet 9 0 0;buys 2-purse;");
        Checks.due(x, 1, "years", 1);
        Checks.due(x, 0, "person", 0, 0);
        Checks.due(x, 2, "person", 1, 0);
        Checks.due(x, 10, "poet", 0, 0);
        // the most that one of the fines lacked, not all together; nine at most; from the next year on
        x = Checks.town("person 0 2 0 0;person 0 3 0 0;poet 0 0 9;");
        Checks.due(x, 1, "years", 1);
        Checks.due(x, 3, "poet", 0, 3);
        Checks.due(x, 3, "years", 2);
        Checks.due(x, 1, "poet", 0, 3);
        Checks.due(x, 5, "count", 6);
        Checks.due(x, 5, "years", 2);
        Checks.due(x, 10, "count", 6);
        x = Checks.town("person 0 2 0 0;poet 0 0 9;fines 15;");
        Checks.due(x, 1, "years", 1);
        Checks.due(x, 9, "poet", 0, 3);
        // the last of four poets and of eight people, with another purse, line and jail of one's own
        x = Checks.town("person 0 0 0 0;".repeat(7) + "person 3 0 0 4;" + "poet 5 0 0 0 0;".repeat(3)
            + "poet 1 1 9 2 7 1 9;buys 0;");
        Checks.due(x, 1, "years", 1);
        Checks.due(x, 1, "poet", 3, 2);
        Checks.due(x, 128, "poet", 3, 4);
        Checks.due(x, 2, "years", 1);
        Checks.due(x, 3, "poet", 3, 3);
        Checks.due(x, 2, "poet", 3, 2);
        Checks.due(x, 0, "poet", 0, 2);
        Checks.due(x, 8, "count", 8);
        Checks.due(x, 127, "count", 7);
        Checks.due(x, 4, "person", 7, 0);
        Checks.due(x, -1, "pardon", 0);
        Checks.due(x, 2, "burn", 3);
        Checks.due(x, 0, "poet", 3, 2);
        Checks.due(x, 3, "pardon", 3);
        Checks.due(x, 0, "count", 8);
        Checks.due(x, 5, "poet", 2, 0);
        // scars end at 99
        x = Checks.town("person 0 9 0 0;poet 0 0 9;fines 0;");
        Checks.due(x, 10, "years", 10);
        Checks.due(x, 90, "person", 0, 1);
        Checks.due(x, 12, "years", 2);
        Checks.due(x, 99, "person", 0, 1);
        Checks.due(x, 12, "person", 0, 2);
    }

    private static void burn() {
        PoetFines x = Checks.town(Checks.BASE);
        Checks.due(x, 0, "burn", 0);
        Checks.due(x, 1, "burn", 0);
        Checks.due(x, 2, "burn", 0);
        Checks.due(x, 0, "poet", 0, 2);
        Checks.due(x, 3, "poet", 0, 1);
        Checks.due(x, -1, "burn", 1);
        Checks.due(x, 3, "count", 9);
        Checks.due(x, 1, "count", 13);
        Checks.due(x, Checks.NO_SUCH, "burn", 2);
        Checks.due(x, Checks.NO_SUCH, "burn", -1);
        Checks.due(x, 1, "count", 13);
    }

    private static void rewrite() {
        PoetFines x = Checks.town(Checks.BASE);
        Checks.due(x, 5, "rewrite", 0, 0, 2);
        Checks.due(x, 2, "line", 0, 0, 1);
        Checks.due(x, 2, "rewrite", 0, 0, 9);
        Checks.due(x, 9, "rewrite", 0, 0, 0);
        Checks.due(x, -1, "rewrite", 0, 0, 0);
        Checks.due(x, -1, "rewrite", 0, 0, 10);
        Checks.due(x, -1, "rewrite", 0, 0, -1);
        Checks.due(x, 3, "count", 13);
        Checks.due(x, 3, "count", 9);
        Checks.due(x, Checks.NO_SUCH, "rewrite", 2, 0, 1);
        Checks.due(x, Checks.NO_SUCH, "rewrite", 1, 1, 5);
        Checks.due(x, Checks.NO_SUCH, "rewrite", 0, -1, 10);
    }

    private static void pardon() {
        PoetFines x = Checks.town(Checks.BASE);
        Checks.due(x, -1, "pardon", 0);
        Checks.due(x, 2, "years", 2);
        Checks.due(x, 1, "pardon", 0);
        Checks.due(x, 0, "poet", 0, 3);
        Checks.due(x, -1, "pardon", 0);
        Checks.due(x, 2, "count", 13);
        Checks.due(x, Checks.NO_SUCH, "pardon", 2);
        Checks.due(x, Checks.NO_SUCH, "pardon", -1);
    }

    private static void fill() {
        PoetFines x = Checks.town(Checks.BASE);
        Checks.due(x, 5, "fill", 0, 99);
        Checks.due(x, 99, "fill", 0, 0);
        Checks.due(x, 0, "person", 0, 0);
        Checks.due(x, -1, "fill", 0, 0);
        Checks.due(x, -1, "fill", 0, 100);
        Checks.due(x, -1, "fill", 0, -1);
        Checks.due(x, 3, "count", 13);
        Checks.due(x, 2, "count", 9);
        Checks.due(x, Checks.NO_SUCH, "fill", 3, 1);
        Checks.due(x, Checks.NO_SUCH, "fill", -1, 100);
    }

    private static void heal() {
        PoetFines x = Checks.town(Checks.BASE);
        Checks.due(x, -1, "heal", 0);
        Checks.due(x, 1, "years", 1);
        Checks.due(x, 3, "heal", 0);
        Checks.due(x, 0, "person", 0, 1);
        Checks.due(x, 1, "person", 0, 2);
        Checks.due(x, -1, "heal", 0);
        Checks.due(x, 2, "count", 13);
        Checks.due(x, Checks.NO_SUCH, "heal", 3);
        Checks.due(x, Checks.NO_SUCH, "heal", -1);
    }

    private static void undo() {
        PoetFines x = Checks.town(Checks.BASE);
        Checks.due(x, -1, "undo");
        String first = facts(x);
        x.years(2);
        String second = facts(x);
        x.pardon(0);
        String third = facts(x);
        x.burn(0);
        String fourth = facts(x);
        x.rewrite(0, 1, 8);
        x.fill(1, 77);
        x.heal(2);
        Checks.due(x, 5, "undo");
        Checks.due(x, 4, "undo");
        Checks.due(x, 3, "undo");
        Checks.same("ahead of the rewriting", facts(x), fourth);
        Checks.due(x, 2, "undo");
        Checks.same("ahead of the burning", facts(x), third);
        Checks.due(x, 1, "undo");
        Checks.same("ahead of the pardon", facts(x), second);
        // what is felt and refused is no act
        Checks.due(x, 1, "feel", 0, 1, true);
        Checks.due(x, -1, "pardon", 1);
        Checks.due(x, 0, "undo");
        Checks.same("ahead of the years", facts(x), first);
        Checks.due(x, -1, "undo");
        Checks.due(x, 1, "count", 13);
        Checks.due(x, 1, "count", 10);
    }

    private static void fortyActs() {
        PoetFines x = Checks.town(Checks.BASE);
        for (int k = 1; k <= 45; k++) {
            Checks.due(x, k, "years", 1);
            Checks.due(x, Math.min(k, 40), "count", 9);
        }
        for (int k = 39; k >= 0; k--) {
            Checks.due(x, k, "undo");
            Checks.due(x, k + 5, "count", 3);
        }
        Checks.due(x, -1, "undo");
        Checks.due(x, 5, "count", 3);
    }

    private static void image() {
        PoetFines x = Checks.town(Checks.BASE);
        Checks.due(x, false, "restore");
        x.years(2);
        x.feel(1, 3, true);
        x.image();
        String facts = facts(x);
        x.pardon(0);
        x.rewrite(0, 0, 1);
        x.fill(0, 3);
        x.burn(0);
        x.forget();
        x.years(3);
        x.undo();
        x.undo();
        x.undo();
        x.undo();
        x.undo();
        x.undo();
        x.fill(2, 1);
        Checks.due(x, -1, "years", 0);
        Checks.due(x, true, "restore");
        Checks.same("as the image", facts(x), facts);
        Checks.due(x, 1, "count", 9);
        Checks.due(x, 1, "count", 10);
        Checks.due(x, 1, "count", 13);
        Checks.due(x, 0, "undo");
        Checks.due(x, 0, "count", 3);
        // it can be had again, and another one takes its place
        Checks.due(x, true, "restore");
        Checks.same("as the image", facts(x), facts);
        x.years(1);
        x.forget();
        x.image();
        x.years(1);
        Checks.due(x, true, "restore");
        Checks.due(x, 3, "count", 3);
        Checks.due(x, 2, "count", 9);
        Checks.due(x, 0, "count", 10);
    }

    /** All that acts can change. */
    private static String facts(PoetFines x) {
        StringBuilder all = new StringBuilder();
        all.append(x.count(3)).append(';');
        for (int p = 0; p < x.count(1); p++) {
            all.append(x.person(p, 0)).append(' ').append(x.person(p, 1)).append(' ').append(x.person(p, 2)).append(';');
        }
        for (int p = 0; p < x.count(2); p++) {
            all.append(x.poet(p, 0)).append(' ').append(x.poet(p, 2)).append(' ').append(x.poet(p, 3));
            for (int l = 0; l < x.poet(p, 1); l++) {
                all.append(' ').append(x.line(p, l, 1));
            }
            all.append(';');
        }
        return all.toString();
    }
}

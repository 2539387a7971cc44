/** ==== 2, "A YEAR": each sentence of it, by years that go by and by what is foreseen of them. */
public final class YearTest {
    public static void main(String[] args) {
        whoSits();
        aPennyAtLeast();
        moreThanNothing();
        atOnesTurnOfBuying();
        poetHasMost();
        earnedAtTheEdge();
        nextLineRound();
        hitOrNot();
        atOnesTurnOfReading();
        aheadOfThisHit();
        fineOfNothing();
        mostScars();
        asFarAsThePurseGoes();
        personHasMost();
        mostThatLacked();
        nineAtMost();
        fromTheNextOneOn();
        yearIsOneMore();
        poetByPoet();
        nobody();
        Checks.end();
    }

    /** "one who SITS sits for a YEAR less (and reads nothing)": sells nothing either, and the next line stays. */
    private static void whoSits() {
        PoetFines x = Checks.town("person 9 3 0 0;poet 0 0 9 1 1;fines 4;buys year<1;");
        Checks.due(x, 1, "years", 1);
        int[][] due = {{3, 1, 0, 3}, {2, 1, 0, 3}, {1, 1, 0, 3}, {0, 1, 0, 3}, {0, 0, 0, 3}, {4, 1, 0, 6}};
        for (int k = 0; k < due.length; k++) {
            Checks.due(x, due[k][0], "poetThen", 0, k, 2);
            Checks.due(x, due[k][1], "poetThen", 0, k, 1);
            Checks.due(x, due[k][2], "poetThen", 0, k, 0);
            Checks.due(x, due[k][3], "then", 0, k, 1);
            Checks.due(x, k < 4 ? 0 : k - 3, "poetThen", 0, k, 5);
        }
        // who would buy doesn't while the poet sits
        x = Checks.town("person 9 3 0 0;poet 0 0 9;fines 4;");
        Checks.due(x, 1, "years", 1);
        Checks.due(x, 9, "person", 0, 0);
        Checks.due(x, 3, "poet", 0, 3);
        Checks.due(x, 9, "then", 0, 3, 0);
        Checks.due(x, 9, "then", 0, 4, 0);
        Checks.due(x, 6, "then", 0, 4, 1);
        Checks.due(x, 0, "poetThen", 0, 3, 4);
        Checks.due(x, 1, "poetThen", 0, 4, 4);
    }

    /** "first PERSON by PERSON who has a PENNY at least". */
    private static void aPennyAtLeast() {
        for (String buys : new String[] {"", "buys 1;", "buys 9999;", "buys purse+1;"}) {
            PoetFines x = Checks.town("person 0 0 0 0;person 1 0 0 0;person 2 0 0 0;poet 5 0 0;" + buys);
            Checks.due(x, 1, "years", 1);
            Checks.due(x, 0, "person", 0, 0);
            Checks.due(x, 0, "person", 1, 0);
            Checks.due(x, 1, "person", 2, 0);
            Checks.due(x, 7, "poet", 0, 0);
            Checks.due(x, 2, "years", 1);
            Checks.due(x, 0, "person", 1, 0);
            Checks.due(x, 0, "person", 2, 0);
            Checks.due(x, 8, "poet", 0, 0);
            Checks.due(x, 8, "poetThen", 0, 60, 0);
        }
    }

    /** "for whom BUYS gives more than 0 (without it: all such)". */
    private static void moreThanNothing() {
        PoetFines x = Checks.town("person 1 0 0 0;person 2 0 0 0;person 3 0 0 0;person 9 0 0 0;poet 5 0 0;buys purse-2;");
        Checks.due(x, 1, "years", 1);
        int[] purse = {1, 2, 2, 8};
        for (int person = 0; person < 4; person++) {
            Checks.due(x, purse[person], "person", person, 0);
        }
        Checks.due(x, 7, "poet", 0, 0);
        Checks.due(x, 7 + 6, "poetThen", 0, 60, 0);
        for (String none : new String[] {"0", "0-1", "0-9999", "8192*8192*32"}) {
            x = Checks.town("person 1 0 0 0;poet 5 0 0;buys " + none + ";");
            Checks.due(x, 1, "then", 0, 60, 0);
        }
    }

    /** "by what is so at one's turn": a poet's purse, scars and the like as those ahead have left them. */
    private static void atOnesTurnOfBuying() {
        // the second poet finds the purse that the first one left
        PoetFines x = Checks.town("person 2 0 0 0;person 3 0 0 0;poet 0 0 0;poet 0 0 0;poet 0 0 0;buys purse=2;");
        Checks.due(x, 1, "years", 1);
        Checks.due(x, 1, "person", 0, 0);
        Checks.due(x, 3, "person", 1, 0);
        Checks.due(x, 1, "poet", 0, 0);
        Checks.due(x, 0, "poet", 1, 0);
        // the second poet finds the scars and the penny that the first one left
        x = Checks.town("person 0 1 0 0;poet 3 0 1;poet 3 1 1;buys scars;");
        Checks.due(x, 1, "years", 1);
        Checks.due(x, 0, "person", 0, 0);
        Checks.due(x, 2, "poet", 0, 0);
        Checks.due(x, 4, "poet", 1, 0);
    }

    /** "who has 999 at most; beyond that it is lost". */
    private static void poetHasMost() {
        PoetFines x = rich();
        Checks.due(x, 995, "poet", 0, 0);
        Checks.due(x, 8 * 86, "count", 4);
        Checks.due(x, 114, "years", 1);
        Checks.due(x, 999, "poet", 0, 0);
        // all eight have paid: four pennies are lost
        Checks.due(x, 8 * 85, "count", 4);
        Checks.due(x, 115, "years", 1);
        Checks.due(x, 999, "poet", 0, 0);
        Checks.due(x, 8 * 84, "count", 4);
        // so has the last of four, from whom alone they buy
        x = Checks.town("person 99 0 0 1;".repeat(8) + "poet 5 0 0;".repeat(3) + "poet 99 2 1;fines 0;buys before;");
        for (int k = 0; k < 5; k++) {
            x.years(20);
        }
        for (int person = 0; person < 8; person++) {
            Checks.due(x, 0, "fill", person, 99);
        }
        Checks.due(x, 99 + 792, "poet", 3, 0);
        Checks.due(x, 120, "years", 20);
        Checks.due(x, 999, "poet", 3, 0);
        Checks.due(x, 5, "poet", 2, 0);
        Checks.due(x, 8 * 79, "count", 4);
    }

    /** "EARNED by BUYING": what is lost isn't; of fines it is said that they are "PAID", of this not. */
    private static void earnedAtTheEdge() {
        PoetFines x = rich();
        Checks.due(x, 0, "poetThen", 0, 0, 4);
        Checks.due(x, 4, "poetThen", 0, 1, 4);
        Checks.due(x, 4, "poetThen", 0, 9, 4);
        Checks.due(x, 999, "poetThen", 0, 9, 0);
    }

    /** The poet has 995, eight people 86 each. */
    private static PoetFines rich() {
        PoetFines x = Checks.town("person 99 0 0 0;".repeat(8) + "poet 99 0 0;");
        for (int k = 1; k <= 5; k++) {
            Checks.due(x, 20 * k, "years", 20);
        }
        Checks.due(x, 891, "poet", 0, 0);
        for (int person = 0; person < 8; person++) {
            Checks.due(x, 0, "fill", person, 99);
        }
        Checks.due(x, 113, "years", 13);
        return x;
    }

    /** "the LINE that is next (0 at first, round)", "Then the next LINE is the one behind". */
    private static void nextLineRound() {
        for (int lines = 1; lines <= 6; lines++) {
            PoetFines x = Checks.town("poet 0" + " 0 1".repeat(lines) + ";");
            for (int year = 0; year < 14; year++) {
                Checks.due(x, year % lines, "poet", 0, 2);
                Checks.due(x, (year + 2) % lines, "poetThen", 0, 2, 1);
                x.years(1);
            }
        }
        PoetFines x = Checks.town("person 0 1 2 3;poet 99 0 9 1 9 2 9;poet 99 2 9 1 9;fines 0;");
        int[] scars = {0, 4, 8, 14, 17, 22, 27};
        for (int years = 0; years < scars.length; years++) {
            Checks.due(x, scars[years], "then", 0, years, 1);
        }
    }

    /** "if they are more than 0, one is HIT": 0 and what is kept to 0 isn't. */
    private static void hitOrNot() {
        String[] hits = {"0", "0-1", "1", "0-9999", "8192*8192*32"};
        for (String rule : hits) {
            PoetFines x = Checks.town("person 0 9 9 9;poet 9 0 9;hits " + rule + ";buys 0;");
            int hit = rule.equals("1") ? 1 : 0;
            Checks.due(x, 1, "years", 1);
            Checks.due(x, hit, "person", 0, 2);
            Checks.due(x, hit, "person", 0, 1);
            Checks.due(x, hit, "person", 0, 0);
            Checks.due(x, 9 - hit, "poet", 0, 0);
            Checks.due(x, hit, "poet", 0, 4);
        }
        // the lesser of DEPTH and TRUE is 0 if either is
        PoetFines x = Checks.town("person 0 0 1 9;poet 9 0 9 1 0 2 0 1 1;buys 0;");
        for (int years = 0; years < 5; years++) {
            Checks.due(x, years / 4, "then", 0, years, 2);
        }
    }

    /** "PERSON by PERSON: INCHES are what HITS gives, by what is so at one's turn". */
    private static void atOnesTurnOfReading() {
        PoetFines x = Checks.town("person 0 0 0 0;person 0 0 0 0;person 0 0 0 0;poet 9 0 0;hits purse;fines 3;buys 0;");
        Checks.due(x, 1, "years", 1);
        Checks.due(x, 9, "person", 0, 1);
        Checks.due(x, 6, "person", 1, 1);
        Checks.due(x, 3, "person", 2, 1);
        Checks.due(x, 0, "poet", 0, 0);
        Checks.due(x, 0, "poet", 0, 3);
        // it sold ahead of reading
        x = Checks.town("person 1 0 0 0;poet 4 0 0;hits purse;fines 0;");
        Checks.due(x, 4, "probe", 0, 0, 0, 0);
        Checks.due(x, 5, "then", 0, 1, 1);
    }

    /** "the fine is what FINES gives, by what is so ahead of this hit". */
    private static void aheadOfThisHit() {
        PoetFines x = Checks.town("person 0 5 0 0;poet 50 0 9;fines scars;buys 0;");
        int[] purse = {50, 50, 45, 35};
        for (int years = 0; years < 4; years++) {
            Checks.due(x, purse[years], "poetThen", 0, years, 0);
        }
        x = Checks.town("person 0 5 0 0;poet 50 0 9;fines before;buys 0;");
        Checks.due(x, 50, "poetThen", 0, 1, 0);
        Checks.due(x, 49, "poetThen", 0, 2, 0);
        Checks.due(x, 47, "poetThen", 0, 3, 0);
        x = Checks.town("person 0 5 0 0;poet 9 0 9;fines purse-2;buys 0;");
        Checks.due(x, 2, "poetThen", 0, 1, 0);
        Checks.due(x, 2, "poetThen", 0, 2, 0);
    }

    /** A hit whose fine is kept to 0 is a hit; the poet gets nothing by it. */
    private static void fineOfNothing() {
        for (String fines : new String[] {"0", "0-1", "0-20"}) {
            PoetFines x = Checks.town("person 5 2 0 0;poet 0 0 9;fines " + fines + ";buys 0;");
            Checks.due(x, 1, "years", 1);
            Checks.due(x, 5, "person", 0, 0);
            Checks.due(x, 2, "person", 0, 1);
            Checks.due(x, 1, "person", 0, 2);
            Checks.due(x, 0, "poet", 0, 0);
            Checks.due(x, 0, "poet", 0, 3);
        }
    }

    /** "SCARS are INCHES more (99 at most)": one is hit all the same. */
    private static void mostScars() {
        for (int inches = 1; inches <= 9; inches++) {
            PoetFines x = Checks.town("person 0 0 0 0;poet 0 0 0;hits " + inches + ";fines 0;");
            for (int k = 1; k <= 6; k++) {
                Checks.due(x, 20 * k, "years", 20);
                Checks.due(x, Math.min(99, 20 * k * inches), "person", 0, 1);
                Checks.due(x, 20 * k, "person", 0, 2);
            }
            int enough = (99 + inches - 1) / inches;
            PoetFines y = Checks.town("person 0 0 0 0;poet 0 0 0;hits " + inches + ";fines 0;");
            Checks.due(y, Math.min(99, Math.min(60, enough - 1) * inches), "then", 0, Math.min(60, enough - 1), 1);
            Checks.due(y, inches == 1 ? 60 : 99, "then", 0, Math.min(60, enough), 1);
            Checks.due(y, 60 * inches, "into", 0, 0, 60);
        }
    }

    /** "the POET pays the fine to the PERSON .. as far as the PURSE goes". */
    private static void asFarAsThePurseGoes() {
        int[][] due = {{0, 0, 5}, {1, 0, 4}, {4, 0, 1}, {5, 0, 0}, {6, 1, 0}};
        for (int[] row : due) {
            PoetFines x = Checks.town("person 0 5 0 0;poet " + row[0] + " 0 9;buys 0;");
            Checks.due(x, 1, "years", 1);
            Checks.due(x, row[1], "poet", 0, 0);
            Checks.due(x, row[2], "poet", 0, 3);
            Checks.due(x, row[0] - row[1], "person", 0, 0);
            Checks.due(x, row[2] > 0 ? 1 : 0, "count", 8);
        }
        // a later one gets what is left, the last one nothing
        PoetFines x = Checks.town("person 0 5 0 0;person 0 5 0 0;person 0 5 0 0;poet 7 0 9;buys 0;");
        Checks.due(x, 1, "years", 1);
        Checks.due(x, 5, "person", 0, 0);
        Checks.due(x, 2, "person", 1, 0);
        Checks.due(x, 0, "person", 2, 0);
        Checks.due(x, 5, "person", 2, 1);
        Checks.due(x, 7, "count", 4);
    }

    /** "(who has 999 at most; beyond that it is lost, but PAID)". */
    private static void personHasMost() {
        PoetFines x = Checks.town("person 90 9 0 0;" + "person 99 0 0 0;".repeat(7) + "poet 99 0 9;".repeat(4)
            + "fines purse;buys before=0;");
        int[] before = new int[4];
        boolean lost = false;
        boolean edge = false;
        for (int years = 1; years <= 60; years++) {
            int paid = 0;
            for (int poet = 0; poet < 4; poet++) {
                int all = x.poetThen(poet, years, 3);
                paid += all - before[poet];
                before[poet] = all;
            }
            int bought = years == 1 ? 4 : 0;
            int had = x.then(0, years - 1, 0);
            Checks.due(x, Math.min(999, had - bought + paid), "then", 0, years, 0);
            lost |= had == 999 && paid > 0;
            edge |= had < 999 && had - bought + paid > 999;
        }
        Checks.same("some was lost", lost && edge, true);
        Checks.due(x, 999, "then", 0, 60, 0);
    }

    /** "the most that lacked for one of these fines": not all together, not the last, not the first. */
    private static void mostThatLacked() {
        int[][] rows = {{2, 5, 3}, {5, 2, 3}, {2, 3, 5}, {4, 4, 4}, {0, 0, 7}, {7, 0, 0}, {0, 0, 0}};
        for (int[] row : rows) {
            StringBuilder people = new StringBuilder();
            int most = 0;
            for (int n : row) {
                people.append("person 0 ").append(n).append(" 0 0;");
                most = Math.max(most, n);
            }
            PoetFines x = Checks.town(people + "poet 0 0 9;");
            Checks.due(x, 1, "years", 1);
            Checks.due(x, most, "poet", 0, 3);
        }
        // what lacks is what the purse doesn't hold
        PoetFines x = Checks.town("person 0 5 0 0;person 0 5 0 0;person 0 3 0 0;poet 7 0 9;buys 0;");
        Checks.due(x, 1, "years", 1);
        Checks.due(x, 3, "poet", 0, 3);
    }

    /** "9 at most: for so many YEARS the POET SITS". */
    private static void nineAtMost() {
        for (int fine = 0; fine <= 21; fine++) {
            PoetFines x = Checks.town("person 0 1 0 0;poet 0 0 9;fines " + fine + ";");
            Checks.due(x, 1, "years", 1);
            Checks.due(x, Math.min(9, fine), "poet", 0, 3);
            Checks.due(x, fine > 0 ? 1 : 0, "count", 8);
            Checks.due(x, Math.min(9, fine), "jailed", 0, Math.min(9, fine));
            Checks.due(x, Math.min(9, fine), "jailed", 0, Math.min(9, fine) + 1);
            x = Checks.town("person 0 1 0 0;poet 5 0 9;fines " + fine + ";buys 0;");
            Checks.due(x, Math.max(0, Math.min(9, Math.min(20, fine) - 5)), "poetThen", 0, 1, 2);
        }
    }

    /** "for so many YEARS the POET SITS, from the next one on". */
    private static void fromTheNextOneOn() {
        for (int lacks = 1; lacks <= 9; lacks++) {
            PoetFines x = Checks.town("person 0 " + lacks + " 0 0;poet 0 0 9;");
            Checks.due(x, 0, "jailed", 0, 1);
            Checks.due(x, 1, "jailed", 0, 2);
            Checks.due(x, lacks, "jailed", 0, 1 + lacks);
            Checks.due(x, lacks, "jailed", 0, 2 + lacks);
            Checks.due(x, lacks + 1, "jailed", 0, 3 + lacks);
            Checks.due(x, 1, "poetThen", 0, 1 + lacks, 5);
            Checks.due(x, 2, "poetThen", 0, 2 + lacks, 5);
            Checks.due(x, 0, "poetThen", 0, 1 + lacks, 2);
            Checks.due(x, lacks, "poetThen", 0, 1, 2);
        }
    }

    /** "The YEAR is one more, when all POETS are done": the same for all of them, without any too. */
    private static void yearIsOneMore() {
        PoetFines x = Checks.town("person 0 0 0 0;" + "poet 9 0 0;".repeat(4) + "hits year=1;fines 0;buys 0;");
        for (int years = 0; years < 4; years++) {
            Checks.due(x, years < 2 ? 0 : 4, "then", 0, years, 2);
        }
        Checks.due(x, 1, "years", 1);
        for (int poet = 0; poet < 4; poet++) {
            Checks.due(x, 1, "poet", poet, 4);
        }
        Checks.due(new PoetFines(), 1, "years", 1);
        Checks.due(Checks.town("person 9 9 9 9;"), 20, "years", 20);
    }

    /** "POET by POET": what one did is so for the next one in the same year. */
    private static void poetByPoet() {
        PoetFines x = Checks.town("person 0 0 0 0;poet 9 0 0;poet 9 0 0;poet 9 0 0;hits scars+1;fines 0;buys 0;");
        Checks.due(x, 1, "years", 1);
        Checks.due(x, 7, "person", 0, 1);
        Checks.due(x, 3, "person", 0, 2);
        // a fine of the first one is spent at the second one
        x = Checks.town("person 0 1 0 0;poet 1 0 9;poet 0 1 9;");
        Checks.due(x, 1, "years", 1);
        Checks.due(x, 0, "person", 0, 0);
        Checks.due(x, 0, "poet", 0, 0);
        Checks.due(x, 1, "poet", 1, 0);
    }

    /** Without PEOPLE lines are read, without POETS years go by. */
    private static void nobody() {
        PoetFines x = Checks.town("poet 5 0 9 1 9;");
        Checks.due(x, 3, "years", 3);
        Checks.due(x, 1, "poet", 0, 2);
        Checks.due(x, 5, "poet", 0, 0);
        Checks.due(x, 0, "poet", 0, 3);
        Checks.due(x, 60, "poetThen", 0, 60, 5);
        x = Checks.town("person 5 9 9 9;");
        Checks.due(x, 3, "years", 3);
        Checks.due(x, 5, "person", 0, 0);
        Checks.due(x, 0, "person", 0, 1);
    }
}

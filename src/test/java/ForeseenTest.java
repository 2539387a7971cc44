import java.util.Random;

/** Promises 16 to 20, 26 and 34 to 36 at their edges: no years, the last ones, like ones, none. */
public final class ForeseenTest {
    public static void main(String[] args) {
        noYears();
        lastYearOfSixty();
        hurtFirst();
        richestAndPoorest();
        injuredFromNowOn();
        deepest();
        allQuiet();
        paidEarnedRead();
        pardonForMost();
        pardonOfLikeOnes();
        pardonOfWhoSits();
        toBurn();
        toBurnOfLikeOnes();
        bestAsActs();
        eachOfFour();
        jailedAndRead();
        intoPerson();
        laureate();
        withoutAny();
        Checks.end();
    }

    /** "(0 to 60)": behind no years all is as now, and nothing has happened. */
    private static void noYears() {
        PoetFines x = Checks.town("person 5 3 0 0;person 7 0 2 0;poet 4 0 9 1 9;poet 2 1 9;fines 3;");
        Checks.due(x, 3, "years", 3);
        for (int p = 0; p < 2; p++) {
            for (int what = 0; what < 3; what++) {
                Checks.due(x, x.person(p, what), "then", p, 0, what);
            }
            int[] now = {x.poet(p, 0), x.poet(p, 2), x.poet(p, 3), 0, 0, 0};
            for (int what = 0; what < 6; what++) {
                Checks.due(x, now[what], "poetThen", p, 0, what);
            }
            Checks.due(x, 0, "jailed", p, 0);
            Checks.due(x, 0, "into", p, 0, 0);
            Checks.due(x, 0, "into", p, 1, 0);
        }
        Checks.due(x, x.count(8), "later", 0, 2);
        Checks.due(x, x.count(7), "later", 0, 3);
        Checks.due(x, 0, "later", 0, 4);
        Checks.due(x, 0, "laureate", 0);
    }

    /** What happens in the sixtieth year counts in sixty, and not in fifty-nine. */
    private static void lastYearOfSixty() {
        PoetFines x = Checks.town("person 9 0 0 0;poet 9 0 0 0 0;hits (year=59)*4;fines 14;buys year=59;");
        for (int years = 58; years <= 60; years++) {
            int there = years == 60 ? 1 : 0;
            Checks.due(x, 9 + there * 9, "then", 0, years, 0);
            Checks.due(x, there * 4, "then", 0, years, 1);
            Checks.due(x, there, "then", 0, years, 2);
            Checks.due(x, 9 - there * 9, "poetThen", 0, years, 0);
            Checks.due(x, years % 2, "poetThen", 0, years, 1);
            Checks.due(x, there * 4, "poetThen", 0, years, 2);
            Checks.due(x, there * 10, "poetThen", 0, years, 3);
            Checks.due(x, there, "poetThen", 0, years, 4);
            Checks.due(x, years, "poetThen", 0, years, 5);
            Checks.due(x, there, "later", years, 2);
            Checks.due(x, 1 - there, "later", years, 3);
            Checks.due(x, there, "later", years, 4);
            Checks.due(x, there * 4, "worst", years, 0);
            Checks.due(x, years - there, "worst", years, 1);
            Checks.due(x, there * 4, "into", 0, 0, years);
            Checks.due(x, there, "decades", 99, years, 0);
        }
        Checks.due(x, 60, "hurt", 0, 0);
    }

    /** "behind how many YEARS (1 to 60) a PERSON is first HIT by a POET; none". */
    private static void hurtFirst() {
        for (int year : new int[] {0, 1, 2, 30, 58, 59, 60, 61, 100}) {
            PoetFines x = Checks.town("person 0 0 0 0;person 0 5 0 0;poet 9 0 0;poet 9 0 0;hits year=" + year
                + " and true<5 or year=" + (year + 1) + ";fines 0;buys 0;");
            Checks.due(x, year < 60 ? year + 1 : -1, "hurt", 0, 0);
            Checks.due(x, year < 60 ? year + 1 : -1, "hurt", 0, 1);
            Checks.due(x, year < 59 ? year + 2 : -1, "hurt", 1, 0);
        }
        // as deep as the line is: one that isn't, hits nobody
        PoetFines quiet = Checks.town("person 0 9 0 0;poet 9 0 0;");
        Checks.due(quiet, -1, "hurt", 0, 0);
        // by that poet; a hit that has been is none from now on
        PoetFines x = Checks.town("person 0 1 0 0;person 0 0 1 0;poet 9 0 9 2 9;poet 9 1 9 2 9;fines 0;");
        Checks.due(x, 1, "hurt", 0, 0);
        Checks.due(x, -1, "hurt", 0, 1);
        Checks.due(x, -1, "hurt", 1, 0);
        Checks.due(x, 1, "hurt", 1, 1);
        Checks.due(x, 1, "years", 1);
        Checks.due(x, 2, "hurt", 0, 0);
        // who sits hits nobody
        x = Checks.town("person 0 5 0 0;poet 0 0 9;");
        Checks.due(x, 1, "years", 1);
        Checks.due(x, 6, "hurt", 0, 0);
        Checks.due(x, 5, "pardon", 0);
        Checks.due(x, 1, "hurt", 0, 0);
    }

    /** "who of PEOPLE has most (of like ones the least); POOREST POET; none". */
    private static void richestAndPoorest() {
        String quiet = "poet 5 0 0;buys 0;";
        Checks.due(Checks.town("person 1 0 0 0;".repeat(8) + quiet), 0, "later", 60, 0);
        Checks.due(Checks.town("person 1 0 0 0;".repeat(7) + "person 2 0 0 0;" + quiet), 7, "later", 60, 0);
        Checks.due(Checks.town("person 0 0 0 0;" + quiet), 0, "later", 0, 0);
        Checks.due(Checks.town("person 0 0 0 0;person 3 0 0 0;person 2 0 0 0;person 3 0 0 0;" + quiet), 1, "later", 0, 0);
        Checks.due(Checks.town(quiet), -1, "later", 0, 0);
        Checks.due(Checks.town("poet 5 0 0;".repeat(4)), 0, "later", 60, 1);
        Checks.due(Checks.town("poet 5 0 0;".repeat(3) + "poet 4 0 0;"), 3, "later", 60, 1);
        Checks.due(Checks.town("poet 7 0 0;poet 3 0 0;poet 5 0 0;poet 3 0 0;"), 1, "later", 0, 1);
        Checks.due(Checks.town("person 9 0 0 0;"), -1, "later", 0, 1);
        String more = "person 1 0 0 0;person 2 0 0 0;person 3 0 0 0;person 4 0 0 0;";
        Checks.due(Checks.town(more + "poet 7 0 0;poet 5 0 0;poet 3 0 0;poet 1 0 0;buys 0;"), 3, "later", 0, 0);
        Checks.due(Checks.town(more + "poet 7 0 0;poet 5 0 0;poet 3 0 0;poet 1 0 0;buys 0;"), 3, "later", 0, 1);
        Checks.due(Checks.town(more + "poet 1 0 0;poet 3 0 0;poet 5 0 0;poet 0 0 0;buys 0;"), 3, "later", 0, 1);
        // then, not now: the second one is paid more than the first one has
        PoetFines x = Checks.town("person 9 0 0 0;person 0 5 0 0;poet 20 0 9;poet 11 1 1;buys 0;");
        Checks.due(x, 0, "later", 1, 0);
        Checks.due(x, 1, "later", 2, 0);
        Checks.due(x, 1, "later", 1, 1);
        Checks.due(x, 0, "later", 2, 1);
    }

    /** "INJURED in so many YEARS (0 to 60): which PEOPLE are HIT (bits)": not who has scars. */
    private static void injuredFromNowOn() {
        PoetFines x = Checks.town("person 0 1 0 0;person 0 0 1 0;person 0 0 0 1;poet 9 0 9 1 9 2 9;fines 0;");
        int[] bits = {0, 1, 3, 7, 7};
        for (int years = 0; years < bits.length; years++) {
            Checks.due(x, bits[years], "later", years, 4);
        }
        Checks.due(x, 2, "years", 2);
        int[] then = {0, 4, 5, 7};
        for (int years = 0; years < then.length; years++) {
            Checks.due(x, then[years], "later", years, 4);
        }
        // of one whose scars are 99 already, too
        x = Checks.town("person 0 9 0 0;poet 9 0 9;fines 0;");
        Checks.due(x, 20, "years", 20);
        Checks.due(x, 99, "person", 0, 1);
        Checks.due(x, 1, "later", 1, 4);
    }

    /** "DEEPEST of so many YEARS (1 to 60): the most INCHES that one goes into anybody". */
    private static void deepest() {
        PoetFines x = Checks.town("person 0 2 4 0;person 0 3 1 0;poet 99 0 9 1 9 2 9;poet 99 2 9 2 9 0 9;fines 0;");
        Checks.due(x, 3, "worst", 1, 0);
        Checks.due(x, 4, "worst", 2, 0);
        Checks.due(x, 4, "worst", 60, 0);
        // not all together; as deep as it goes, not the scars that there is place for
        x = Checks.town("person 0 9 0 0;person 0 9 0 0;poet 9 0 9;fines 0;");
        Checks.due(x, 9, "worst", 60, 0);
        Checks.due(x, 11, "years", 11);
        Checks.due(x, 9, "worst", 1, 0);
        x = Checks.town("person 0 0 0 0;poet 9 0 9;");
        Checks.due(x, 0, "worst", 1, 0);
        Checks.due(x, 0, "worst", 60, 0);
        // what has been is not among them
        x = Checks.town("person 0 1 5 0;poet 9 1 9 0 9;fines 0;");
        Checks.due(x, 5, "worst", 1, 0);
        Checks.due(x, 1, "years", 1);
        Checks.due(x, 1, "worst", 1, 0);
    }

    /** "in how many of so many YEARS (1 to 60) nobody is HIT". */
    private static void allQuiet() {
        PoetFines x = Checks.town("person 0 1 0 0;person 0 0 1 0;poet 9 0 9 2 9 2 9;poet 9 2 9 2 9 1 9;fines 0;");
        int[] quiet = {0, 1, 1, 1, 2, 2};
        for (int years = 1; years <= 6; years++) {
            Checks.due(x, quiet[years - 1], "worst", years, 1);
        }
        Checks.due(x, 20, "worst", 60, 1);
        Checks.due(x, 1, "years", 1);
        Checks.due(x, 1, "worst", 1, 1);
        // years in which all sit are quiet
        x = Checks.town("person 0 4 0 0;poet 0 0 9;");
        Checks.due(x, 0, "worst", 1, 1);
        Checks.due(x, 4, "worst", 5, 1);
        Checks.due(x, 4, "worst", 6, 1);
    }

    /** "PAID by a POET in so many YEARS (0 to 60): PENCE; EARNED by BUYING; READ: how many LINES". */
    private static void paidEarnedRead() {
        PoetFines x = Checks.town("person 3 2 0 0;person 1 0 0 0;poet 1 0 9 1 9;poet 9 1 9;fines 3;buys purse<9;");
        // the first poet pays 3, reads a line that hits nobody, then pays what it has
        int[][] due = {{1, 0, 0, 0}, {0, 3, 2, 1}, {1, 3, 3, 2}, {0, 5, 4, 3}};
        for (int years = 0; years < due.length; years++) {
            Checks.due(x, due[years][0], "poetThen", 0, years, 0);
            Checks.due(x, due[years][1], "poetThen", 0, years, 3);
            Checks.due(x, due[years][2], "poetThen", 0, years, 4);
            Checks.due(x, due[years][3], "poetThen", 0, years, 5);
        }
        Checks.due(x, 0, "poetThen", 1, 60, 3);
        Checks.due(x, 60, "poetThen", 1, 60, 5);
    }

    /** "by whose PARDON now all PEOPLE would have most, all together .. if more than without". */
    private static void pardonForMost() {
        // the more scars, the more is due of the third poet, who has it
        String town = "person 0 1 0 0;poet 0 0 9;poet 0 0 9;poet 99 0 9;buys 0;fines scars+1;";
        PoetFines x = Checks.town(town);
        Checks.due(x, 1, "years", 1);
        Checks.due(x, 1, "poet", 0, 3);
        Checks.due(x, 2, "poet", 1, 3);
        Checks.due(x, 3, "person", 0, 0);
        // without: 4 more
        Checks.due(x, 7, "then", 0, 1, 0);
        Checks.due(x, 0, "best", 1, 0);
        Checks.due(x, 1, "pardon", 0);
        Checks.due(x, 8, "then", 0, 1, 0);
        Checks.due(x, 1, "best", 1, 0);
        Checks.due(x, 2, "pardon", 1);
        Checks.due(x, 9, "then", 0, 1, 0);
        Checks.due(x, -1, "best", 1, 0);
        // eight are there, and the scars of the first are no pence of a ninth
        x = Checks.town(town.replace("person 0 1 0 0;", "person 0 1 0 0;" + "person 0 0 0 0;".repeat(7)));
        Checks.due(x, 1, "years", 1);
        Checks.due(x, 0, "best", 1, 0);
        // nothing is due: as much as without is not more
        x = Checks.town("person 0 1 0 0;poet 0 0 9;poet 0 0 9;buys 0;fines 9;");
        Checks.due(x, 1, "years", 1);
        Checks.due(x, 3, "count", 8);
        Checks.due(x, -1, "best", 1, 0);
        Checks.due(x, -1, "best", 60, 0);
        // a pardon by which people have less: they buy
        x = Checks.town("person 9 1 0 0;poet 0 0 9;fines 9-9*before;buys before;");
        Checks.due(x, 1, "years", 1);
        Checks.due(x, 1, "count", 8);
        Checks.due(x, -1, "best", 1, 0);
        Checks.due(x, 9, "pardon", 0);
        Checks.due(x, 8, "then", 0, 1, 0);
        // more than now, but no more than without; so of the least poet and of the most
        x = Checks.town("person 0 1 0 0;poet 0 0 9 1 9;poet 99 0 9;buys 0;");
        Checks.due(x, 1, "years", 1);
        Checks.due(x, 1, "count", 8);
        Checks.due(x, -1, "best", 1, 0);
        // less than now, but more than without: others sell all the time
        x = Checks.town("person 9 1 0 0;poet 0 0 9;poet 9 0 9;poet 9 0 9;fines (year=0)*9*(purse<2)+(4<scars)*2;");
        Checks.due(x, 1, "years", 1);
        Checks.due(x, 1, "count", 8);
        Checks.due(x, 7, "person", 0, 0);
        Checks.due(x, 5, "then", 0, 1, 0);
        Checks.due(x, 0, "best", 1, 0);
        Checks.due(x, 8, "pardon", 0);
        Checks.due(x, 6, "then", 0, 1, 0);
        // pence of people alone, not their scars
        x = Checks.town("person 0 1 0 0;" + "person 0 0 0 0;".repeat(7) + "poet 0 0 9;buys 0;fines year=0;");
        Checks.due(x, 1, "years", 1);
        Checks.due(x, 1, "count", 8);
        Checks.due(x, -1, "best", 1, 0);
        Checks.due(x, 1, "pardon", 0);
        Checks.due(x, 2, "then", 0, 1, 1);
    }

    /** "(of like ones the least)": the second one's pardon brings as much as the third one's. */
    private static void pardonOfLikeOnes() {
        PoetFines x = Checks.town("person 0 1 0 0;poet 99 1 9;poet 0 0 9;poet 0 0 9;poet 99 0 9;buys 0;fines scars+1;");
        Checks.due(x, 1, "years", 1);
        Checks.due(x, 6, "count", 8);
        Checks.due(x, 1, "best", 1, 0);
        // the last of four alone
        x = Checks.town("person 0 1 0 0;poet 99 1 9;poet 99 0 9;poet 99 1 9;poet 0 0 9;buys 0;fines scars+1;");
        Checks.due(x, 1, "years", 1);
        Checks.due(x, 8, "count", 8);
        Checks.due(x, 3, "best", 3, 0);
        // one whose line goes deeper brings more, though it stands behind
        x = Checks.town("person 0 1 2 0;poet 0 0 9;poet 0 0 9 1 9;poet 99 0 9;buys 0;fines scars+1;");
        Checks.due(x, 1, "years", 1);
        Checks.due(x, 3, "count", 8);
        Checks.due(x, 1, "best", 1, 0);
    }

    /** "the POET who SITS": nobody else, though it would be hit; behind the years that are asked. */
    private static void pardonOfWhoSits() {
        PoetFines x = Checks.town("person 0 1 0 0;poet 99 0 9;poet 99 0 9;buys 0;fines scars+1;");
        Checks.due(x, -1, "best", 1, 0);
        Checks.due(x, -1, "best", 60, 0);
        // the pardoned one's line hits in the third year only, and lets the other pay more in it
        x = Checks.town("person 0 1 0 0;poet 0 0 9 1 9 1 9;poet 99 0 9;buys 0;fines 9*(0<scars)*(1-before)+scars*(2<year);");
        Checks.due(x, 1, "years", 1);
        Checks.due(x, 0, "poet", 0, 3);
        Checks.due(x, -1, "best", 5, 0);
    }

    /** "so that fewest INCHES go into all, all together, .. if fewer than without". */
    private static void toBurn() {
        // 5, then 1: burning helps in one year, not in two
        PoetFines x = Checks.town("person 0 9 9 9;poet 99 0 5 0 1;fines 0;");
        Checks.due(x, 0, "best", 1, 1);
        Checks.due(x, -1, "best", 2, 1);
        Checks.due(x, 0, "best", 3, 1);
        Checks.due(x, -1, "best", 60, 1);
        Checks.due(x, 0, "best", 59, 1);
        Checks.due(x, 0, "burn", 0);
        Checks.due(x, -1, "best", 1, 1);
        // of one line nothing is burnt
        Checks.due(Checks.town("person 0 9 9 9;poet 99 0 5;fines 0;"), -1, "best", 1, 1);
        // all people together: 3 and 3 against 5
        x = Checks.town("person 0 3 5 0;person 0 3 0 0;poet 99 0 9 1 9;poet 99 1 9 0 9;fines 0;");
        Checks.due(x, 0, "best", 1, 1);
        // who sits burns as well: its line is read in the second year
        x = Checks.town("person 0 1 5 0;poet 0 0 9 1 9 2 9;");
        Checks.due(x, 1, "years", 1);
        Checks.due(x, 1, "poet", 0, 3);
        Checks.due(x, -1, "best", 1, 1);
        Checks.due(x, 0, "best", 2, 1);
        // inches, though there is no place for more scars
        x = Checks.town("person 0 9 0 0;poet 99 0 9;poet 99 0 5 0 1;fines 0;");
        Checks.due(x, 20, "years", 20);
        Checks.due(x, 99, "person", 0, 1);
        Checks.due(x, 1, "best", 1, 1);
    }

    /** "(of like ones the least)". */
    private static void toBurnOfLikeOnes() {
        PoetFines x = Checks.town("person 0 9 9 9;poet 99 0 5;poet 99 0 5 0 1;poet 99 0 6 0 2;poet 99 0 4 0 1;fines 0;");
        Checks.due(x, 1, "best", 1, 1);
        x = Checks.town("person 0 9 9 9;poet 99 0 5;poet 99 0 5 0 1;poet 99 0 6 0 1;poet 99 0 9 0 4;fines 0;");
        Checks.due(x, 2, "best", 1, 1);
    }

    /** The same as acts: on towns by chance each poet is pardoned, or burns, on an object of its own. */
    private static void bestAsActs() {
        Random random = new Random(5);
        int some = 0;
        for (int k = 0; k < 150; k++) {
            StringBuilder text = new StringBuilder();
            for (int p = 0; p < 3; p++) {
                text.append("person ").append(random.nextInt(4)).append(" 0 2 ").append(random.nextInt(6)).append(';');
            }
            for (int p = 0; p < 4; p++) {
                text.append("poet ").append(random.nextInt(7));
                for (int l = random.nextInt(4); l >= 0; l--) {
                    text.append(' ').append(random.nextInt(3)).append(' ').append(random.nextInt(10));
                }
                text.append(';');
            }
            text.append(random.nextBoolean() ? "fines scars;" : "").append(random.nextBoolean() ? "buys purse-1;" : "");
            int years = 1 + random.nextInt(20);
            for (int what = 0; what < 2; what++) {
                int most = outcome(text.toString(), -1, what, years);
                int chosen = -1;
                for (int p = 0; p < 4; p++) {
                    int its = outcome(text.toString(), p, what, years);
                    if (its > most) {
                        most = its;
                        chosen = p;
                    }
                }
                some += chosen >= 0 ? 1 : 0;
                PoetFines x = Checks.town(text.toString());
                x.years(2);
                Checks.due(x, chosen, "best", years, what);
            }
        }
        Checks.same("often there is one", some > 50, true);
    }

    /** Two years behind the beginning this poet is pardoned or burns; what all have then, or inches that are spared. */
    private static int outcome(String text, int poet, int what, int years) {
        PoetFines x = Checks.town(text);
        x.years(2);
        if (poet >= 0) {
            int did = what == 0 ? x.pardon(poet) : x.burn(poet);
            if (did < 0 || what == 0 && did == 0) {
                return Integer.MIN_VALUE;
            }
        }
        int inches = 0;
        for (int p = 0; p < 3; p++) {
            for (int q = 0; q < 4; q++) {
                inches += x.into(p, q, years);
            }
        }
        x.years(years);
        return what == 0 ? x.count(4) : -inches;
    }

    /** Of each of four poets all that is asked of it, behind years that are acts on another object. */
    private static void eachOfFour() {
        String text = "person 9 1 2 3;person 3 4 0 1;poet 9 0 9 1 9 2 9;poet 3 2 1 1 2;poet 1 1 7 0 7 2 2 0 1;poet 12 2 9 0 3;";
        PoetFines x = Checks.town(text);
        PoetFines y = Checks.town(text);
        int[] read = new int[4];
        for (int years = 1; years <= 20; years++) {
            for (int p = 0; p < 4; p++) {
                read[p] += y.poet(p, 3) == 0 ? 1 : 0;
            }
            y.years(1);
            for (int p = 0; p < 4; p++) {
                Checks.due(x, y.poet(p, 0), "poetThen", p, years, 0);
                Checks.due(x, y.poet(p, 2), "poetThen", p, years, 1);
                Checks.due(x, y.poet(p, 3), "poetThen", p, years, 2);
                Checks.due(x, read[p], "poetThen", p, years, 5);
                Checks.due(x, years - read[p], "jailed", p, years);
            }
        }
        for (int p = 0; p < 4; p++) {
            int had = x.poet(p, 0) + x.poetThen(p, 20, 4) - x.poetThen(p, 20, 3);
            Checks.due(x, had, "poetThen", p, 20, 0);
        }
    }

    /** "in how many of so many YEARS (0 to 60) a POET sits (reads nothing)". */
    private static void jailedAndRead() {
        PoetFines x = Checks.town("person 0 2 0 0;poet 0 0 9 1 9;poet 0 0 9;buys 0;fines 2+before;");
        // the first one reads, sits 2, reads a line that hits nobody, reads, sits 3
        int[] jailed = {0, 0, 1, 2, 2, 2, 3, 4, 5, 5, 5};
        for (int years = 0; years < jailed.length; years++) {
            Checks.due(x, jailed[years], "jailed", 0, years);
            Checks.due(x, years - jailed[years], "poetThen", 0, years, 5);
        }
        Checks.due(x, 2, "years", 2);
        Checks.due(x, 1, "jailed", 0, 1);
        Checks.due(x, 1, "jailed", 0, 3);
    }

    /** "how many INCHES LINES of a POET go in so many YEARS (0 to 60), all together". */
    private static void intoPerson() {
        PoetFines x = Checks.town("person 0 1 4 0;person 0 5 9 0;poet 99 0 3 1 7 2 9;poet 99 1 2;fines 0;");
        int[] first = {0, 1, 5, 5, 6};
        int[] second = {0, 3, 10, 10, 13};
        for (int years = 0; years < first.length; years++) {
            Checks.due(x, first[years], "into", 0, 0, years);
            Checks.due(x, second[years], "into", 1, 0, years);
            Checks.due(x, 2 * years, "into", 0, 1, years);
        }
        Checks.due(x, 1, "years", 1);
        Checks.due(x, 4, "into", 0, 0, 1);
        Checks.due(x, 120, "into", 1, 1, 60);
        Checks.due(x, 200, "into", 1, 0, 60);
    }

    /** "the POET who pays least in them (of like ones the least); none". */
    private static void laureate() {
        PoetFines x = Checks.town("person 0 3 2 0;poet 99 0 9;poet 99 1 9;poet 99 1 9;poet 99 0 1 0 9 0 9;buys 0;");
        Checks.due(x, 0, "laureate", 0);
        Checks.due(x, 3, "laureate", 1);
        Checks.due(x, 1, "laureate", 2);
        Checks.due(x, 1, "laureate", 20);
        // by then each of them has paid all
        Checks.due(x, 0, "laureate", 60);
        // what is paid, not what is due: who has nothing pays least
        x = Checks.town("person 0 3 2 0;poet 99 0 1;poet 0 0 9;buys 0;");
        Checks.due(x, 1, "laureate", 1);
        // in these years, not ahead of them
        x = Checks.town("person 0 3 2 0;poet 99 0 9 2 9;poet 99 2 9 0 9;buys 0;");
        Checks.due(x, 1, "laureate", 1);
        Checks.due(x, 1, "years", 1);
        Checks.due(x, 0, "laureate", 1);
        Checks.due(x, 0, "laureate", 2);
    }

    private static void withoutAny() {
        PoetFines x = new PoetFines();
        for (int years = 0; years <= 60; years += 20) {
            Checks.due(x, -1, "later", years, 0);
            Checks.due(x, -1, "later", years, 1);
            Checks.due(x, 0, "later", years, 2);
            Checks.due(x, 0, "later", years, 3);
            Checks.due(x, 0, "later", years, 4);
            Checks.due(x, -1, "laureate", years);
            if (years > 0) {
                Checks.due(x, 0, "worst", years, 0);
                Checks.due(x, years, "worst", years, 1);
                Checks.due(x, -1, "best", years, 0);
                Checks.due(x, -1, "best", years, 1);
            }
        }
        x = Checks.town("poet 3 0 9 0 9;poet 3 0 9;");
        Checks.due(x, 0, "laureate", 60);
        Checks.due(x, -1, "best", 60, 1);
        Checks.due(x, -1, "later", 60, 0);
        Checks.due(x, 0, "later", 60, 1);
        x = Checks.town("person 3 9 9 9;person 3 9 9 9;");
        Checks.due(x, 3, "later", 60, 3);
        Checks.due(x, 60, "worst", 60, 1);
        Checks.due(x, 0, "later", 60, 0);
    }
}

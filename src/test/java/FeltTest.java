import java.util.Random;

/** Promises 27 to 33 at their edges: what is felt of the first and of the twentieth year, accidents, games, decades. */
public final class FeltTest {
    public static void main(String[] args) {
        yearsOfFeeling();
        eightAreFelt();
        eachOfEightCounts();
        byAnyPoet();
        fromNowOn();
        numbersOfTruths();
        firstOfTruths();
        anotherThanIsTrue();
        withoutAny();
        behindFiveYears();
        mostUnlike();
        listenByTruthsAlone();
        accidentsByPowers();
        accidentsAreDeep();
        accidentsOfTheirYear();
        coupleRests();
        noCoupleRests();
        gamesAsActs();
        firstAndOther();
        behindFourYears();
        threeForEachYear();
        manyDecades();
        drawsOfNobody();
        Checks.end();
    }

    /** "in which of so many YEARS from now (1 to 20) a PERSON was HIT .. or not". */
    private static void yearsOfFeeling() {
        for (int year : new int[] {1, 2, 5, 6, 19, 20}) {
            String town = "person 0 3 0 0;person 0 0 0 0;poet 9 0 9;hits true*(year=" + (year - 1) + ");fines 0;";
            for (int felt = 1; felt <= 20; felt++) {
                PoetFines x = Checks.town(town);
                Checks.due(x, 1, "feel", 0, felt, true);
                Checks.due(x, felt == year ? 1 : 0, "truths", 2);
                x.forget();
                Checks.due(x, 1, "feel", 0, felt, false);
                Checks.due(x, felt == year ? 0 : 1, "truths", 2);
                Checks.due(x, 2, "feel", 1, felt, false);
                Checks.due(x, felt == year ? 0 : 1, "truths", 2);
                Checks.due(x, 3, "feel", 1, felt, true);
                Checks.due(x, 0, "truths", 2);
                Checks.due(x, 0, "truths", 0);
            }
        }
    }

    /** "NONE (STATUS 2): there are 8, not 1 to 20". */
    private static void eightAreFelt() {
        PoetFines x = Checks.town("person 0 3 0 0;poet 9 0 9;");
        for (int k = 1; k <= 8; k++) {
            Checks.due(x, -1, "feel", 0, k % 2 == 0 ? 0 : 21, true);
            Checks.due(x, k - 1, "count", 10);
            Checks.due(x, k, "feel", 0, k % 2 == 0 ? 1 : 20, true);
            Checks.due(x, k, "count", 10);
        }
        Checks.due(x, 8, "count", 14);
        for (int k = 1; k <= 3; k++) {
            Checks.due(x, -1, "feel", 0, 1, false);
            Checks.due(x, 8 + k, "count", 14);
            Checks.due(x, 8, "count", 10);
        }
        x.forget();
        Checks.due(x, 0, "count", 10);
        Checks.due(x, 11, "count", 14);
        // the same may be felt again and again
        for (int k = 1; k <= 8; k++) {
            Checks.due(x, k, "feel", 0, 1, true);
        }
    }

    /** "all FELT would be so": each of the eight alone can spoil it. */
    private static void eachOfEightCounts() {
        for (int wrong = 0; wrong <= 8; wrong++) {
            PoetFines x = Checks.town("person 0 3 0 0;".repeat(8) + "poet 9 0 9 1 9;fines 0;");
            for (int k = 0; k < 8; k++) {
                boolean hit = k % 2 == 0;
                Checks.due(x, k + 1, "feel", k, 2 * k + (hit ? 1 : 2), hit != (k == wrong));
            }
            Checks.due(x, wrong == 8 ? 1 : 0, "truths", 2);
            x.forget();
            Checks.due(x, 1, "truths", 2);
        }
    }

    /** "HIT by any POET": by the last of four, and not by who sits. */
    private static void byAnyPoet() {
        PoetFines x = Checks.town("person 0 0 3 0;" + "poet 9 0 9;".repeat(3) + "poet 9 0 9 1 9;fines 0;");
        x.feel(0, 2, true);
        x.feel(0, 1, false);
        Checks.due(x, 1, "truths", 2);
        x = Checks.town("person 0 3 0 0;poet 0 0 9;");
        x.feel(0, 1, true);
        x.feel(0, 2, false);
        x.feel(0, 4, false);
        x.feel(0, 5, true);
        Checks.due(x, 1, "truths", 2);
        x.feel(0, 6, true);
        Checks.due(x, 0, "truths", 2);
    }

    /** "from now on all FELT would be so": the years are counted from the one that is now. */
    private static void fromNowOn() {
        PoetFines x = Checks.town("person 0 3 0 0;poet 9 0 9;hits true*(year=4);fines 0;");
        Checks.due(x, 1, "feel", 0, 3, true);
        Checks.due(x, 0, "truths", 2);
        Checks.due(x, 2, "years", 2);
        Checks.due(x, 1, "truths", 2);
        Checks.due(x, 1, "count", 10);
        x.image();
        Checks.due(x, 3, "years", 1);
        Checks.due(x, 0, "truths", 2);
        Checks.due(x, 1, "undo");
        Checks.due(x, 1, "truths", 2);
        x.forget();
        Checks.due(x, true, "restore");
        Checks.due(x, 1, "count", 10);
        Checks.due(x, 1, "truths", 2);
        // the image keeps who felt what in which year, all eight of them
        x = Checks.town("person 0 3 0 0;".repeat(7) + "person 0 0 0 3;poet 9 0 9 2 9 2 9;fines 0;");
        for (int k = 0; k < 8; k++) {
            Checks.due(x, k + 1, "feel", k, k < 7 ? 3 * k + 1 : 19, k < 7);
        }
        Checks.due(x, 1, "truths", 2);
        x.image();
        for (int wrong = 0; wrong < 8; wrong++) {
            x.forget();
            for (int k = 0; k < 8; k++) {
                Checks.due(x, k + 1, "feel", 7 - k, k == wrong ? 2 : 1, true);
            }
            Checks.due(x, wrong == 0 ? 1 : 0, "truths", 2);
            Checks.due(x, true, "restore");
            Checks.due(x, 8, "count", 10);
            Checks.due(x, 1, "truths", 2);
        }
        // hits that have been are none of them
        x = Checks.town("person 0 3 0 0;poet 9 0 9 1 9;fines 0;");
        x.years(1);
        x.feel(0, 1, false);
        x.feel(0, 2, true);
        Checks.due(x, 1, "truths", 2);
    }

    /** "numbers (0 to 9, another one than is TRUE)": each of them, 0 and 9 as well. */
    private static void numbersOfTruths() {
        for (int number = 0; number <= 9; number++) {
            for (int is = 0; is <= 9; is++) {
                PoetFines x = Checks.town("topics 2;person 0 5 " + is + ";poet 9 1 9;hits true=" + number + ";fines 0;");
                x.feel(0, 1, true);
                boolean so = is == number;
                Checks.due(x, so ? 1 : 0, "truths", 2);
                // what is true of the other topic makes no difference, if it is so without
                Checks.due(x, so ? 9 : 1, "truths", 0);
                Checks.due(x, so ? 0 : 10 + number, "truths", 1);
            }
        }
    }

    /** "the first (100 by who, 10 by the TOPIC, and the number)". */
    private static void firstOfTruths() {
        for (int who = 0; who < 8; who++) {
            for (int topic = 0; topic < 4; topic++) {
                PoetFines x = Checks.town("topics 4;" + "person 0 0 0 0 0;".repeat(8) + "poet 9 " + topic
                    + " 9;hits true=9;fines 0;");
                x.feel(who, 1, true);
                Checks.due(x, 1, "truths", 0);
                Checks.due(x, 100 * who + 10 * topic + 9, "truths", 1);
                Checks.due(x, 0, "truths", 2);
                Checks.due(x, 0, "person", who, 10 + topic);
            }
        }
        // by who ahead of the topic, by the topic ahead of the number
        PoetFines x = Checks.town("person 0 0 0 0;person 0 0 0 0;poet 9 2 9;poet 9 0 9;hits 4<true;fines 0;");
        x.feel(1, 1, true);
        Checks.due(x, 10, "truths", 0);
        Checks.due(x, 105, "truths", 1);
        x = Checks.town("topics 2;person 0 1 0;poet 9 1 9;fines 0;");
        Checks.due(x, 18, "truths", 0);
        Checks.due(x, 0, "truths", 1);
        x = Checks.town("topics 2;person 0 0 1;poet 9 1 9;fines 0;");
        Checks.due(x, 1, "truths", 1);
    }

    /** The number that is TRUE is none of them, at 0, at 9 and between. */
    private static void anotherThanIsTrue() {
        int[] first = {1, 0, 0, 0, 0, 0, 0, 0, 0, 0};
        for (int is = 0; is <= 9; is++) {
            PoetFines x = Checks.town("topics 2;person 0 " + is + " 0;poet 9 0 9;fines 0;");
            Checks.due(x, 18, "truths", 0);
            Checks.due(x, first[is], "truths", 1);
            x.feel(0, 1, false);
            // 0 of the first topic, or, if nobody is hit without, the other topic's nine as well
            Checks.due(x, is == 0 ? 9 : 1, "truths", 0);
            Checks.due(x, is == 0 ? 11 : 0, "truths", 1);
            x.forget();
            x.feel(0, 1, true);
            Checks.due(x, is == 0 ? 9 : 8 + 9, "truths", 0);
            Checks.due(x, 1 + (is == 1 ? 1 : 0), "truths", 1);
        }
        // a rule by which it makes no difference at all
        for (int is = 0; is <= 9; is++) {
            PoetFines x = Checks.town("topics 2;person 0 " + is + " " + is + ";poet 9 0 9;hits 1;fines 0;");
            x.feel(0, 20, true);
            Checks.due(x, 18, "truths", 0);
            Checks.due(x, is == 0 ? 1 : 0, "truths", 1);
        }
    }

    private static void withoutAny() {
        PoetFines x = new PoetFines();
        Checks.due(x, 0, "truths", 0);
        Checks.due(x, -1, "truths", 1);
        Checks.due(x, 1, "truths", 2);
        Checks.due(x, -1, "listen", 0);
        Checks.due(x, 0, "listen", 1);
        x = Checks.town("person 0 1 1 1;");
        Checks.due(x, 27, "truths", 0);
        Checks.due(x, 0, "listen", 0);
        Checks.due(x, 1, "listen", 1);
        x.feel(0, 1, true);
        Checks.due(x, 0, "truths", 0);
        Checks.due(x, -1, "truths", 1);
        Checks.due(x, 0, "truths", 2);
        Checks.due(x, -1, "listen", 0);
        Checks.due(x, 0, "listen", 1);
    }

    /** "unlike SCARS behind 5 YEARS": a hit of the fifth year counts, of the sixth it doesn't. */
    private static void behindFiveYears() {
        for (int year = 0; year <= 6; year++) {
            PoetFines x = Checks.town("person 0 0 0 0;person 0 5 0 0;poet 9 0 9;hits true*(year=" + year + ");fines 0;");
            Checks.due(x, 0, "listen", 0);
            Checks.due(x, year < 5 ? 10 : 1, "listen", 1);
            // what is felt of a later year is asked as well
            x.feel(1, year + 1, false);
            Checks.due(x, 1, "listen", 1);
            Checks.due(x, 0, "listen", 0);
            x.feel(0, year + 1, false);
            Checks.due(x, 1, "truths", 0);
            Checks.due(x, 100, "truths", 1);
        }
        // what is felt of a later year is asked, but scars are those behind five years
        PoetFines late = Checks.town("person 0 0 0 0;person 0 5 0 0;poet 9 0 9;hits true*(year=5);fines 0;");
        Checks.due(late, 1, "feel", 0, 20, false);
        Checks.due(late, 0, "listen", 0);
        Checks.due(late, 1, "listen", 1);
        // of five years all together
        PoetFines x = Checks.town("person 0 0 0 0;poet 9 0 9;poet 9 1 9;hits true*(year<6);fines 0;");
        x.feel(0, 6, true);
        Checks.due(x, 9, "listen", 1);
        Checks.due(x, 18, "truths", 0);
    }

    /** "who by these has most unlike SCARS .. (of like ones the least): how many unlike numbers". */
    private static void mostUnlike() {
        // 1 to 2 by the first topic, 1 to 7 by the second, 1 to 9 by the third
        String lines = "poet 9 0 2;poet 9 1 7;poet 9 2 9;";
        PoetFines x = Checks.town("person 0 0 0 0;" + lines + "hits true*(year=0);fines 0;");
        Checks.due(x, 9, "listen", 1);
        for (int who = 0; who < 8; who++) {
            String town = "person 0 0 5 0;".repeat(who) + "person 0 0 0 0;" + "person 0 0 5 0;".repeat(7 - who);
            x = Checks.town(town + "poet 9 0 9;fines 0;hits true*(year=0)*(before<1)+depth-9;");
            for (int other = 0; other < 8; other++) {
                if (other != who) {
                    x.feel(other, 1, false);
                }
            }
            Checks.due(x, who, "listen", 0);
            Checks.due(x, 10, "listen", 1);
        }
        // unlike numbers from 0 to 99
        x = Checks.town("person 0 9 0 0;poet 9 0 9;poet 9 0 9;poet 9 0 9;poet 9 1 9;fines 0;");
        // 0, 15, 30 .. 90 and 99
        Checks.due(x, 0, "listen", 0);
        Checks.due(x, 8, "listen", 1);
        // each number from 0 to 99 is unlike each other one, however far they are apart
        for (int scars = 1; scars <= 99; scars++) {
            x = Checks.town("person 0 5 0 0;poet 9 0 0;poet 9 0 0;poet 9 0 0;hits (true=1)*(" + scars + "-scars);fines 0;");
            Checks.due(x, 2, "listen", 1);
        }
        // of like ones the least: both have ten
        x = Checks.town("person 0 4 0 0;person 0 4 0 0;poet 9 0 9;fines 0;");
        Checks.due(x, 0, "listen", 0);
        x.feel(0, 1, true);
        Checks.due(x, 1, "listen", 0);
        Checks.due(x, 10, "listen", 1);
        x.feel(1, 1, true);
        Checks.due(x, 0, "listen", 0);
        Checks.due(x, 9, "listen", 1);
    }

    /** "who by these": scars as they are without count only if some truth gives them. */
    private static void listenByTruthsAlone() {
        PoetFines x = Checks.town("topics 2;person 0 5 5;poet 9 0 9;poet 9 1 9;hits true*(year=0);fines 0;");
        // 10 would be without; each truth gives another number, from 5 to 14
        Checks.due(x, 9, "listen", 1);
        x.heal(0);
        Checks.due(x, 9, "listen", 1);
    }

    /** "how likely a PERSON has no SCARS behind them: as so many of 10 to the power of these YEARS". */
    private static void accidentsByPowers() {
        PoetFines x = Checks.town("person 0 3 0 0;person 0 0 3 0;poet 99 0 0;fines 0;");
        for (int years = 1; years <= 5; years++) {
            for (int tenths = 0; tenths <= 10; tenths++) {
                int whole = 1;
                int all = 1;
                for (int k = 0; k < years; k++) {
                    whole *= 10 - tenths;
                    all *= 10;
                }
                Checks.due(x, whole, "accidents", 0, years, tenths);
                Checks.due(x, all, "accidents", 1, years, tenths);
            }
        }
        // who has scars already has some behind them
        x = Checks.town("person 0 1 0 0;poet 99 0 1 1 1 1 1 1 1 1 1 1 1;");
        Checks.due(x, 0, "accidents", 0, 1, 0);
        x.years(1);
        Checks.due(x, 0, "accidents", 0, 5, 0);
        x.heal(0);
        Checks.due(x, 100000, "accidents", 0, 5, 0);
        Checks.due(Checks.town("person 0 9 9 9;"), 100000, "accidents", 0, 5, 10);
        // of each of eight
        for (int who = 0; who < 8; who++) {
            x = Checks.town("person 9 0 3 0;".repeat(who) + "person 9 3 0 0;" + "person 9 0 3 0;".repeat(7 - who)
                + "poet 99 0 0;fines 0;");
            for (int person = 0; person < 8; person++) {
                Checks.due(x, person == who ? 49 : 100, "accidents", person, 2, 3);
            }
        }
    }

    /** "DEPTHS of all LINES read in it are 9": neither 8 nor 10, of all poets. */
    private static void accidentsAreDeep() {
        String two = "person 0 1 0 0;poet 99 1 4;poet 99 0 4;fines 0;";
        Checks.due(Checks.town(two + "hits depth=9;"), 343, "accidents", 0, 3, 3);
        Checks.due(Checks.town(two + "hits 8<depth;"), 343, "accidents", 0, 3, 3);
        Checks.due(Checks.town(two + "hits 9<depth;"), 1000, "accidents", 0, 3, 3);
        Checks.due(Checks.town(two + "hits depth=4;"), 27, "accidents", 0, 3, 3);
        Checks.due(Checks.town(two + "hits depth=8;"), 1000, "accidents", 0, 3, 3);
        Checks.due(Checks.town(two + "hits true*(depth=9);"), 343, "accidents", 0, 3, 3);
        Checks.due(Checks.town("person 0 1 0 0;poet 99 1 4;poet 99 1 4;poet 99 1 4;poet 99 0 4;hits true*(depth=9);"), 6,
            "accidents", 0, 1, 4);
        // a line that is 9 deep is so without
        Checks.due(Checks.town("person 0 1 0 0;poet 99 0 9;hits depth=9;"), 0, "accidents", 0, 1, 0);
    }

    /** "in each of so many YEARS": an accident of one year is none of the next. */
    private static void accidentsOfTheirYear() {
        for (int year = 0; year < 5; year++) {
            PoetFines x = Checks.town("person 0 1 0 0;poet 99 0 4;hits (depth=9)*(year=" + year + ");fines 0;");
            int all = 1;
            for (int years = 1; years <= 5; years++) {
                all *= 10;
                Checks.due(x, years <= year ? all : all / 10 * 3, "accidents", 0, years, 7);
            }
            Checks.due(x, 4, "line", 0, 0, 1);
            Checks.due(x, 0, "count", 3);
        }
        // the poet who lacked sits in the next year: 6 of 10 hit at once, then 4 of 10 times 6 of 10
        PoetFines x = Checks.town("person 0 0 5 0;person 0 5 0 0;poet 0 0 0 1 0;fines 9;buys 0;");
        Checks.due(x, 100 - 4 * 6, "accidents", 0, 2, 6);
    }

    /** "A couple RESTS, if neither gains more by the other choice": as much is not more. */
    private static void coupleRests() {
        // of one line that changes nothing
        game("poet 9 0 1;poet 9 0 1;", 4, 0);
        // burning keeps the first line from being read within the years: a penny more
        String better = "poet 9 0 1 1 0 1 0 1 0 1 0;";
        String worse = "poet 9 1 0 1 0 1 0 1 0 0 1;";
        String alike = "poet 9 1 0 1 0 1 0 1 0 1 0;";
        game(better + better, 1, 11);
        game(better + worse, 1, 10);
        game(worse + better, 1, 1);
        game(worse + worse, 1, 0);
        game(alike + better, 2, 1);
        game(better + alike, 2, 10);
        game(alike + worse, 2, 0);
        game(alike + alike, 4, 0);
    }

    /** "how many; the first .. NONE: none": each poet does well to do what the other one doesn't want. */
    private static void noCoupleRests() {
        // both burn or neither: 2 and 2, 3 and 3; one of them: 4 for the first and 1 for the second
        PoetFines x = Checks.town("topics 2;person 0 0 2;poet 5 0 3 1 9;poet 1 0 0 1 1;");
        Checks.due(x, 18, "truths", 0);
        Checks.due(x, 0, "game", 0, 1, 0);
        Checks.due(x, -1, "game", 0, 1, 1);
        Checks.due(x, 0, "game", 1, 0, 0);
        Checks.due(x, -1, "game", 1, 0, 1);
        // the first: 0, 1 if the second burns; burning 0; the second: 3 less but for burning of the first alone
        x = Checks.town("topics 2;person 1 0 3;poet 0 1 0 1 2;poet 2 1 3 1 0;");
        Checks.due(x, 3, "game", 0, 1, 0);
        Checks.due(x, 0, "game", 0, 1, 1);
    }

    /** The same as acts: on towns by chance each couple burns, or not, on an object of its own. */
    private static void gamesAsActs() {
        Random random = new Random(9);
        for (int k = 0; k < 250; k++) {
            StringBuilder text = new StringBuilder("topics 2;person " + random.nextInt(4) + " 3 1;person 1 0 2;");
            for (int p = 0; p < 2; p++) {
                text.append("poet ").append(random.nextInt(6));
                for (int l = random.nextInt(4); l >= 0; l--) {
                    text.append(' ').append(random.nextInt(2)).append(' ').append(random.nextInt(5));
                }
                text.append(';');
            }
            text.append(random.nextBoolean() ? "fines scars;" : "").append(random.nextBoolean() ? "buys 0;" : "");
            int[][] gains = new int[4][];
            for (int couple = 0; couple < 4; couple++) {
                gains[couple] = gains(text.toString(), couple / 2 == 1, couple % 2 == 1);
            }
            int many = 0;
            int first = -1;
            for (int couple = 3; couple >= 0; couple--) {
                if (gains[couple][0] >= gains[couple ^ 2][0] && gains[couple][1] >= gains[couple ^ 1][1]) {
                    many++;
                    first = couple / 2 * 10 + couple % 2;
                }
            }
            PoetFines x = Checks.town(text.toString());
            Checks.due(x, many, "game", 0, 1, 0);
            Checks.due(x, first, "game", 0, 1, 1);
        }
    }

    private static int[] gains(String text, boolean first, boolean other) {
        PoetFines x = Checks.town(text);
        if (first) {
            x.burn(0);
        }
        if (other) {
            x.burn(1);
        }
        x.years(4);
        return new int[] {x.poet(0, 0) - 3 * x.poet(0, 3), x.poet(1, 0) - 3 * x.poet(1, 3)};
    }

    private static void game(String poets, int many, int first) {
        PoetFines x = Checks.town("person 0 1 0 0;" + poets + "buys 0;");
        Checks.due(x, many, "game", 0, 1, 0);
        Checks.due(x, first, "game", 0, 1, 1);
        // from the other side the choices change their places
        Checks.due(x, many, "game", 1, 0, 0);
        Checks.due(x, first == 10 ? 1 : first == 1 ? 10 : first, "game", 1, 0, 1);
    }

    /** "10 by the first one's and the other one's", of any two of four. */
    private static void firstAndOther() {
        String quiet = "poet 9 1 0;";
        for (int a = 0; a < 4; a++) {
            for (int b = 0; b < 4; b++) {
                if (a != b) {
                    String[] rows = {quiet, quiet, quiet, quiet};
                    rows[a] = "poet 9 0 1 1 0 1 0 1 0 1 0;";
                    rows[b] = "poet 9 1 0 1 0 1 0 1 0 0 1;";
                    PoetFines x = Checks.town("person 0 1 0 0;" + String.join("", rows) + "buys 0;");
                    Checks.due(x, 1, "game", a, b, 0);
                    Checks.due(x, 10, "game", a, b, 1);
                    Checks.due(x, 1, "game", b, a, 1);
                }
            }
        }
    }

    /** "behind 4 YEARS": the line that costs is read in them, or behind them. */
    private static void behindFourYears() {
        for (int line = 0; line < 6; line++) {
            StringBuilder row = new StringBuilder("poet 9");
            for (int k = 0; k < 6; k++) {
                row.append(k == line ? " 0 1" : " 1 0");
            }
            // read 0 to 3, or 1 to 4
            int first = line == 0 ? 10 : 0;
            PoetFines x = Checks.town("person 0 1 0 0;" + row + ";poet 9 1 0;buys 0;");
            Checks.due(x, line == 0 || line == 4 ? 2 : 4, "game", 0, 1, 0);
            Checks.due(x, first, "game", 0, 1, 1);
        }
    }

    /** "loses 3 for each YEAR that one SITS then": behind the four years, not in them. */
    private static void threeForEachYear() {
        for (int lacks = 0; lacks <= 9; lacks++) {
            PoetFines x = Checks.town("person 0 " + lacks + " 0 0;poet 0 0 9 1 0 1 0 1 0 1 0 1 0;poet 9 1 0;buys 0;");
            Checks.due(x, Math.max(0, lacks - 3), "poetThen", 0, 4, 2);
            Checks.due(x, lacks <= 3 ? 4 : 2, "game", 0, 1, 0);
            Checks.due(x, lacks <= 3 ? 0 : 10, "game", 0, 1, 1);
            // of who has pence each of them counts
            x = Checks.town("person 0 " + lacks + " 0 0;poet 9 0 9 1 0 1 0 1 0 1 0 1 0;poet 9 1 0;buys 0;");
            Checks.due(x, lacks == 0 ? 4 : 2, "game", 0, 1, 0);
            Checks.due(x, lacks == 0 ? 0 : 10, "game", 0, 1, 1);
            // read at last, or a year ahead of that: one year less is left
            x = Checks.town("person 0 " + lacks + " 0 0;poet 0 1 0 1 0 1 0 0 9 1 0 1 0;poet 9 1 0;buys 0;");
            Checks.due(x, lacks, "poetThen", 0, 4, 2);
            Checks.due(x, lacks == 0 ? 4 : 2, "game", 0, 1, 0);
            Checks.due(x, lacks == 0 ? 0 : 10, "game", 0, 1, 1);
        }
    }

    /** "n YEARS (0 to 60)", each with its draws: the same years as acts, one by one on another object. */
    private static void manyDecades() {
        String eight = "person 9 1 0 2 3;person 0 0 4 0 1;person 3 2 2 1 0;person 7 0 0 0 9;";
        String four = "poet 9 0 5 1 3 2 9 3 1 0 2 1 8;poet 0 1 9;poet 20 2 4 3 7;poet 5 3 3 0 0 1 1;";
        for (int seed : new int[] {0, 1, -1, 5, -7, 77777, Integer.MAX_VALUE, Integer.MIN_VALUE, 1 << 16, 123456789}) {
            decades(Checks.BASE, seed, 3, 2);
            decades("topics 4;" + eight + eight + four, seed, 8, 4);
            decades("topics 4;" + eight + "poet 3 0 7 1 2;", seed, 4, 1);
            decades("person 4 1 2 3;poet 2 0 9 1 9 2 9;poet 0 1 2;poet 7 0 9;", seed, 1, 3);
        }
    }

    private static void decades(String text, int seed, int people, int poets) {
        PoetFines x = Checks.town(text);
        PoetFines y = Checks.town(text);
        int s = seed;
        for (int n = 0; n <= 60; n++) {
            if (n % 6 == 0 || n == 59) {
                int hits = 0;
                for (int p = 0; p < people; p++) {
                    hits += y.person(p, 2);
                }
                Checks.due(x, hits, "decades", seed, n, 0);
                Checks.due(x, y.count(6), "decades", seed, n, 1);
                Checks.due(x, y.count(4), "decades", seed, n, 2);
            }
            s = s * 1103515245 + 12345;
            int event = (s >>> 16 & 32767) % 6;
            if (event < 3) {
                s = s * 1103515245 + 12345;
                int who = (s >>> 16 & 32767) % (event == 1 ? people : poets);
                if (event == 0) {
                    y.pardon(who);
                } else if (event == 1) {
                    y.heal(who);
                } else {
                    s = s * 1103515245 + 12345;
                    y.rewrite(who, y.poet(who, 2), (s >>> 16 & 32767) % 10);
                }
            }
            y.years(1);
        }
    }

    /** "(Without POETS nothing is drawn behind 0, 2, without PEOPLE nothing behind 1.)" */
    private static void drawsOfNobody() {
        // people alone: nobody is hit, whatever is drawn; poets alone: lines have depths, but nobody is there
        PoetFines x = Checks.town("person 7 1 1 1;person 8 1 1 1;");
        PoetFines y = Checks.town("poet 7 1 1 2 2;poet 0 1 1;");
        for (int seed = -20; seed < 20; seed++) {
            Checks.due(x, 0, "decades", seed, 60, 0);
            Checks.due(x, 0, "decades", seed, 60, 1);
            Checks.due(x, 15, "decades", seed, 60, 2);
            Checks.due(y, 0, "decades", seed, 60, 0);
            Checks.due(y, 0, "decades", seed, 60, 2);
        }
    }
}

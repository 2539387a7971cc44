/** Promises 5 to 8, 21 to 25 and 37 at their edges: what is asked of now, of nobody and of as many as there can be. */
public final class CourtTest {
    /** Fines of 1 to 8 of one line for the eight. */
    private static final String EIGHT = "person 0 1 0 0;person 0 2 0 0;person 0 3 0 0;person 0 4 0 0;person 0 5 0 0;"
        + "person 0 6 0 0;person 0 7 0 0;person 0 8 0 0;";

    public static void main(String[] args) {
        countsAtFull();
        bitsOfEach();
        eachTruth();
        eachLine();
        whomItWouldHit();
        nowIsAheadOfSelling();
        safeDepth();
        safeForAnybody();
        fineWhateverThePurse();
        sonnetWithinThePurse();
        sonnetOfLikeOnes();
        sonnetOfSix();
        actionMoreThanThePurse();
        actionOfAsFew();
        actionByAllLines();
        readingsAsManyAsCan();
        readingsFirstRow();
        readingsOfWhoSits();
        plaintiffMost();
        Checks.end();
    }

    private static void countsAtFull() {
        PoetFines x = Checks.town("topics 4;" + "person 99 9 9 9 9;".repeat(8) + ("poet 99" + " 3 9".repeat(6) + ";").repeat(4));
        int[] due = {4, 8, 4, 0, 792, 396, 0, 255, 0, 0, 0, 0, 0, 0, 0};
        for (int what = 0; what < due.length; what++) {
            Checks.due(x, due[what], "count", what);
        }
        Checks.due(x, 20, "years", 20);
        Checks.due(x, 20, "count", 3);
        // all is paid and all is scarred; each poet has a next line and sits, but that is no penny
        x = Checks.town("person 1 1 0 0;".repeat(8) + "poet 10 1 9 1 9 0 9;".repeat(4) + "fines 2;buys 0;");
        Checks.due(x, 3, "years", 3);
        Checks.due(x, 2, "poet", 0, 3);
        Checks.due(x, 0, "poet", 3, 2);
        Checks.due(x, 0, "count", 5);
        Checks.due(x, 48, "count", 4);
        Checks.due(x, 32, "count", 6);
        Checks.due(x, 15, "count", 8);
        x.years(4);
        Checks.due(x, 2, "poet", 0, 2);
        Checks.due(x, 0, "count", 5);
    }

    /** "who has none (bits)", "POETS who SIT (bits)": the bit of each one alone. */
    private static void bitsOfEach() {
        for (int who = 0; who < 8; who++) {
            String people = "person 0 0 1 1;".repeat(who) + "person 0 1 1 1;" + "person 0 0 1 1;".repeat(7 - who);
            PoetFines x = Checks.town(people + "poet 9 0 1;buys 0;");
            Checks.due(x, 1 << who, "poet", 0, 4);
            Checks.due(x, 255, "count", 7);
            Checks.due(x, 1, "years", 1);
            Checks.due(x, 255 - (1 << who), "count", 7);
            Checks.due(x, 255 - (1 << who), "later", 5, 3);
            Checks.due(x, 1 << who, "later", 5, 4);
            Checks.due(x, 1, "count", 6);
        }
        for (int who = 0; who < 4; who++) {
            String poets = "poet 0 1 1;".repeat(who) + "poet 0 0 1;" + "poet 0 1 1;".repeat(3 - who);
            PoetFines x = Checks.town("person 0 1 0 0;" + poets);
            Checks.due(x, 0, "count", 8);
            Checks.due(x, 1 << who, "later", 1, 2);
            Checks.due(x, 1, "years", 1);
            Checks.due(x, 1 << who, "count", 8);
            Checks.due(x, 1, "pardon", who);
            Checks.due(x, 0, "count", 8);
        }
    }

    /** "10 and a TOPIC: what is TRUE", of each PERSON and TOPIC. */
    private static void eachTruth() {
        for (int topics = 2; topics <= 4; topics++) {
            StringBuilder text = new StringBuilder("topics " + topics + ";");
            for (int p = 0; p < 8; p++) {
                text.append("person ").append(90 + p);
                for (int t = 0; t < topics; t++) {
                    text.append(' ').append((3 * p + 7 * t) % 10);
                }
                text.append(';');
            }
            PoetFines x = Checks.town(text.toString());
            for (int p = 0; p < 8; p++) {
                Checks.due(x, 90 + p, "person", p, 0);
                for (int t = 0; t < 4; t++) {
                    Checks.due(x, t < topics ? (3 * p + 7 * t) % 10 : Checks.NO_SUCH, "person", p, 10 + t);
                }
                Checks.due(x, Checks.NO_SUCH, "person", p, 9);
                Checks.due(x, Checks.NO_SUCH, "person", p, 3);
            }
        }
    }

    /** Each LINE of each POET has a TOPIC and a DEPTH of its own. */
    private static void eachLine() {
        StringBuilder text = new StringBuilder("topics 4;person 0 9 9 9 9;");
        for (int p = 0; p < 4; p++) {
            text.append("poet ").append(10 * p);
            for (int l = 0; l < 6; l++) {
                text.append(' ').append((p + l) % 4).append(' ').append((5 * p + l) % 10);
            }
            text.append(';');
        }
        PoetFines x = Checks.town(text.toString());
        for (int p = 0; p < 4; p++) {
            Checks.due(x, 10 * p, "poet", p, 0);
            Checks.due(x, 6, "poet", p, 1);
            for (int l = 0; l < 6; l++) {
                int depth = (5 * p + l) % 10;
                int[] due = {(p + l) % 4, depth, 0, depth, depth};
                for (int what = 0; what < 5; what++) {
                    Checks.due(x, due[what], "line", p, l, what);
                }
            }
        }
        // another depth of the last one is of none other
        Checks.due(x, 0, "rewrite", 3, 5, 1);
        for (int p = 0; p < 4; p++) {
            for (int l = 0; l < 6; l++) {
                Checks.due(x, p == 3 && l == 5 ? 1 : (5 * p + l) % 10, "line", p, l, 1);
            }
        }
    }

    /** "whom the next LINE would HIT now": of who SITS too. */
    private static void whomItWouldHit() {
        PoetFines x = Checks.town("person 0 1 0 0;person 0 0 1 0;person 0 1 1 0;poet 0 0 9 1 9 2 9;");
        Checks.due(x, 5, "poet", 0, 4);
        Checks.due(x, 0, "burn", 0);
        Checks.due(x, 6, "poet", 0, 4);
        Checks.due(x, 1, "burn", 0);
        Checks.due(x, 0, "poet", 0, 4);
        Checks.due(x, 2, "burn", 0);
        Checks.due(x, 1, "years", 1);
        Checks.due(x, 1, "poet", 0, 3);
        Checks.due(x, 6, "poet", 0, 4);
    }

    /** "(Now, as at the beginning of a YEAR:)": nothing is sold yet, and nothing is read. */
    private static void nowIsAheadOfSelling() {
        PoetFines x = Checks.town("person 9 1 1 1;person 9 2 2 2;poet 3 0 9 1 9;hits purse;fines purse+2;");
        Checks.due(x, 3, "probe", 0, 0, 0, 9);
        Checks.due(x, 3, "probe", 0, 1, 0, 0);
        Checks.due(x, 10, "line", 0, 0, 3);
        Checks.due(x, 10, "line", 0, 1, 3);
        Checks.due(x, 6, "line", 0, 1, 4);
        Checks.due(x, 0, "sonnet", 0, 0);
        // ten pence of each; more than three pence
        Checks.due(x, 1, "action", 0);
        Checks.due(x, 0, "plaintiff", 1);
        Checks.due(x, 3, "readings", -1);
    }

    /** "SAFE: the greatest DEPTH (0 to 9) by which, and by any lesser one, nobody would be HIT; none". */
    private static void safeDepth() {
        for (int depth = 0; depth <= 9; depth++) {
            safe("hits depth-" + depth + ";", depth);
            safe("hits " + depth + "<depth;", depth);
            // a depth alone that hits: greater ones that hit nobody are of no use
            safe("hits depth=" + depth + ";", depth - 1);
        }
        safe("hits 0-1;", 9);
        // no line is less deep than 0 or deeper than 9
        safe("hits 0-depth;", 9);
        safe("hits depth<0;", 9);
        safe("hits 9<depth;", 9);
        safe("hits 1;", -1);
        safe("hits 1-depth;", -1);
        safe("hits depth<1 or 8<depth;", -1);
        safe("hits 3<depth and depth<6;", 3);
        safe("", 0);
    }

    private static void safe(String hits, int due) {
        PoetFines x = Checks.town("person 1 0 3 2;poet 1 0 1;" + hits);
        Checks.due(x, due, "safe", 0, 1);
    }

    /** "nobody": the last of eight too, and by what is true of the TOPIC that is asked. */
    private static void safeForAnybody() {
        String seven = "topics 4;" + "person 0 0 0 0 0;".repeat(7);
        PoetFines x = Checks.town(seven + "person 0 0 0 0 7;poet 1 0 9;");
        int[] due = {9, 9, 9, 0};
        for (int topic = 0; topic < 4; topic++) {
            Checks.due(x, due[topic], "safe", 0, topic);
        }
        Checks.due(Checks.town("topics 4;poet 1 0 9;"), 9, "safe", 0, 3);
        // of who sits too, and of the poet that is asked
        x = Checks.town("person 0 1 1 1;poet 0 0 9;poet 9 0 0;hits depth-2-before;fines 9;");
        Checks.due(x, 1, "years", 1);
        Checks.due(x, 3, "safe", 0, 2);
        Checks.due(x, 2, "safe", 1, 2);
    }

    /** "what all it HITS would get, all together, each asked by what is so now, whatever the PURSE holds". */
    private static void fineWhateverThePurse() {
        PoetFines x = Checks.town("person 0 9 0 0;".repeat(8) + "poet 0 0 9 1 9;fines 20;");
        Checks.due(x, 160, "line", 0, 0, 3);
        Checks.due(x, 72, "line", 0, 0, 4);
        // who isn't hit gets nothing, whatever FINES gives
        Checks.due(x, 0, "line", 0, 1, 3);
        Checks.due(x, 0, "line", 0, 1, 4);
        x = Checks.town("person 0 2 0 0;person 0 3 0 0;poet 1 0 9;fines purse;");
        Checks.due(x, 2, "line", 0, 0, 3);
        x = Checks.town("poet 1 0 9;fines 20;");
        Checks.due(x, 0, "line", 0, 0, 3);
    }

    /** "of which FINES, all together, are PURSE or less and INCHES .. most". */
    private static void sonnetWithinThePurse() {
        String lines = " 0 3 1 2 2 2;fines inches*inches;";
        sonnet("person 0 9 9 9;poet 3" + lines, 0, 0);
        sonnet("person 0 9 9 9;poet 4" + lines, 2, 2);
        sonnet("person 0 9 9 9;poet 7" + lines, 2, 2);
        sonnet("person 0 9 9 9;poet 8" + lines, 4, 6);
        sonnet("person 0 9 9 9;poet 12" + lines, 4, 6);
        sonnet("person 0 9 9 9;poet 13" + lines, 5, 3);
        sonnet("person 0 9 9 9;poet 16" + lines, 5, 3);
        sonnet("person 0 9 9 9;poet 17" + lines, 7, 7);
        sonnet("person 0 9 9 9;poet 99" + lines, 7, 7);
        // into all people, all together
        sonnet("person 0 1 9 0;person 0 1 0 0;poet 2 0 9 1 1;", 2, 1);
        sonnet("person 0 1 9 0;person 0 1 0 0;poet 1 0 9 1 1;", 1, 2);
        sonnet("person 0 1 9 0;person 0 1 0 0;poet 3 0 9 1 1;", 3, 3);
    }

    /** "(bits; of like ones the least)", "each once at most". */
    private static void sonnetOfLikeOnes() {
        sonnet("person 0 9 9 9;poet 2 0 2 1 2 2 2;", 2, 1);
        sonnet("person 0 9 9 9;poet 4 0 2 1 2 2 2;", 4, 3);
        sonnet("person 0 9 9 9;poet 5 0 1 1 4 2 5;", 5, 3);
        sonnet("person 0 9 9 9;poet 99 0 2;", 2, 1);
        // nothing and lines that hit nobody are alike: the least is nothing
        sonnet("person 0 0 0 0;poet 99 0 2 1 2;", 0, 0);
        sonnet("person 0 0 0 9;poet 99 0 2 1 2 2 2 0 2;", 2, 4);
        sonnet("poet 99 0 2 1 2;", 0, 0);
        sonnet("person 0 9 9 9;poet 0 0 2 1 2;fines 0-1;", 4, 3);
    }

    private static void sonnetOfSix() {
        String six = " 0 1 0 2 0 3 0 4 0 5 0 6;";
        for (int purse = 0; purse <= 22; purse++) {
            // of those sums the least bits: as in the rows of the six, tried one by one
            int best = 0;
            for (int bits = 0; bits < 64; bits++) {
                best = sum(bits) <= purse && sum(bits) > sum(best) ? bits : best;
            }
            sonnet("person 0 9 0 0;poet " + purse + six, Math.min(21, purse), best);
        }
    }

    private static int sum(int bits) {
        int sum = 0;
        for (int line = 0; line < 6; line++) {
            sum += (bits >> line & 1) * (line + 1);
        }
        return sum;
    }

    private static void sonnet(String text, int inches, int bits) {
        PoetFines x = Checks.town(text);
        Checks.due(x, inches, "sonnet", 0, 0);
        Checks.due(x, bits, "sonnet", 0, 1);
    }

    /** "get more than the PURSE, all together": as much is not more. */
    private static void actionMoreThanThePurse() {
        for (int purse = 0; purse <= 37; purse++) {
            int fewest = 9;
            int least = -1;
            for (int bits = 255; bits > 0; bits--) {
                int sum = 0;
                for (int p = 0; p < 8; p++) {
                    sum += (bits >> p & 1) * (p + 1);
                }
                if (sum > purse && Integer.bitCount(bits) <= fewest) {
                    fewest = Integer.bitCount(bits);
                    least = bits;
                }
            }
            Checks.due(Checks.town(EIGHT + "poet " + purse + " 0 9;"), least, "action", 0);
        }
        Checks.due(Checks.town(EIGHT + "poet 7 0 9;"), 128, "action", 0);
        Checks.due(Checks.town(EIGHT + "poet 8 0 9;"), 24, "action", 0);
        Checks.due(Checks.town(EIGHT + "poet 35 0 9;"), 255, "action", 0);
        Checks.due(Checks.town(EIGHT + "poet 36 0 9;"), -1, "action", 0);
        Checks.due(Checks.town(EIGHT + "poet 0 1 9;"), -1, "action", 0);
        Checks.due(Checks.town("poet 0 1 9;"), -1, "action", 0);
    }

    /** "the fewest PEOPLE .. of as few the least as bits". */
    private static void actionOfAsFew() {
        String alike = "person 0 5 0 0;".repeat(8);
        Checks.due(Checks.town(alike + "poet 4 0 9;"), 1, "action", 0);
        Checks.due(Checks.town(alike + "poet 5 0 9;"), 3, "action", 0);
        Checks.due(Checks.town(alike + "poet 9 0 9;"), 3, "action", 0);
        Checks.due(Checks.town(alike + "poet 10 0 9;"), 7, "action", 0);
        Checks.due(Checks.town(alike + "poet 39 0 9;"), 255, "action", 0);
        Checks.due(Checks.town(alike + "poet 40 0 9;"), -1, "action", 0);
        // two of the first ones would do, but one of the last does
        Checks.due(Checks.town("person 0 3 0 0;person 0 3 0 0;person 0 6 0 0;poet 5 0 9;"), 4, "action", 0);
    }

    /** "by FINES that each would get by all LINES of the POET". */
    private static void actionByAllLines() {
        PoetFines x = Checks.town("person 0 1 2 3;person 0 5 0 0;poet 5 0 9 1 9 2 9;poet 9 0 9;poet 4 0 9;");
        Checks.due(x, 1, "action", 0);
        Checks.due(x, -1, "action", 1);
        Checks.due(x, 2, "action", 2);
        // what one would get more than the purse counts as well, whoever asks first
        x = Checks.town("person 0 9 0 0;person 0 9 0 0;poet 39" + " 0 9".repeat(6) + ";fines 20;");
        Checks.due(x, 1, "action", 0);
    }

    /** "each POET who doesn't SIT to a PERSON (HIT or not), no two to one, as many as can". */
    private static void readingsAsManyAsCan() {
        String four = "poet 9 0 1;poet 9 0 2;poet 9 0 3;poet 9 0 4;";
        rows("person 0 9 9 9;".repeat(8) + four, 10, 0, 1, 2, 3);
        rows("person 0 9 9 9;".repeat(4) + four, 10, 0, 1, 2, 3);
        rows("person 0 9 9 9;".repeat(3) + four, 9, -1, 0, 1, 2);
        rows("person 0 9 9 9;".repeat(2) + four, 7, -1, -1, 0, 1);
        rows("person 0 9 9 9;" + four, 4, -1, -1, -1, 0);
        rows(four, 0, -1, -1, -1, -1);
        rows("person 0 0 0 0;".repeat(8) + four, 0, 0, 1, 2, 3);
        rows("person 0 0 0 0;".repeat(3) + four, 0, 0, 1, 2, -1);
        // most all together, though the first one's best is taken by another
        rows("person 0 5 0 0;person 0 4 0 0;poet 9 0 9;poet 9 0 9;", 9, 0, 1);
        rows("topics 2;person 0 5 5;person 0 4 0;poet 9 0 9;poet 9 1 9;", 9, 1, 0);
    }

    /** "of like ones the first row (by POETS: to whom; to nobody behind all)". */
    private static void readingsFirstRow() {
        rows("person 0 3 3 3;".repeat(2) + "poet 9 0 1;".repeat(4), 2, 0, 1, -1, -1);
        rows("person 0 3 3 3;" + "poet 9 0 1;".repeat(4), 1, 0, -1, -1, -1);
        rows("person 0 3 3 3;".repeat(8) + "poet 9 0 1;".repeat(4), 4, 0, 1, 2, 3);
        // the first one reads where it hits nobody, so that it stands first
        rows("topics 2;person 0 0 0;person 0 1 0;poet 9 1 9;poet 9 0 9;", 1, 0, 1);
        rows("topics 2;person 0 1 0;person 0 0 0;poet 9 1 9;poet 9 0 9;", 1, 1, 0);
        // the next line's inches, not the first one's
        PoetFines x = Checks.town("person 0 1 5 0;person 0 1 2 0;poet 9 0 9 1 9;poet 9 0 9;");
        rows(x, 2, 0, 1);
        x.burn(0);
        rows(x, 6, 0, 1);
    }

    /** Who sits reads to nobody, and leaves a place for others. */
    private static void readingsOfWhoSits() {
        PoetFines x = Checks.town("person 0 2 0 0;poet 0 0 9;poet 9 0 9;poet 0 0 9;poet 9 0 1;buys 0;");
        Checks.due(x, 1, "years", 1);
        Checks.due(x, 5, "count", 8);
        rows(x, 2, -1, 0, -1, -1);
        Checks.due(x, 2, "pardon", 0);
        rows(x, 2, 0, -1, -1, -1);
        // who sits for one year more sits now
        x = Checks.town("person 0 1 0 0;poet 0 0 9;poet 9 0 9;buys 0;");
        Checks.due(x, 1, "years", 1);
        Checks.due(x, 1, "poet", 0, 3);
        rows(x, 1, -1, 0);
        x = Checks.town("person 0 2 0 0;person 0 2 0 0;" + "poet 0 0 9;".repeat(4));
        Checks.due(x, 1, "years", 1);
        Checks.due(x, 15, "count", 8);
        rows(x, 0, -1, -1, -1, -1);
    }

    private static void rows(String text, int sum, int... row) {
        rows(Checks.town(text), sum, row);
    }

    private static void rows(PoetFines x, int sum, int... row) {
        Checks.due(x, sum, "readings", -1);
        for (int poet = 0; poet < row.length; poet++) {
            Checks.due(x, row[poet], "readings", poet);
        }
        Checks.due(x, Checks.NO_SUCH, "readings", row.length);
        Checks.due(x, sum, "readings", -1);
    }

    /** "from whom one would get most, if all LINES .. were read now .. (of like ones the least); none, if nothing". */
    private static void plaintiffMost() {
        String people = "person 0 3 0 0;person 0 0 3 0;person 0 0 0 0;";
        PoetFines x = Checks.town(people + "poet 0 0 2;poet 0 0 3;poet 0 0 1 0 1 0 1;poet 99 1 3;");
        Checks.due(x, 1, "plaintiff", 0);
        Checks.due(x, 3, "plaintiff", 1);
        Checks.due(x, -1, "plaintiff", 2);
        // of like ones the least, and one penny is something
        x = Checks.town(people + "poet 9 1 1;poet 9 0 1;poet 9 0 1;");
        Checks.due(x, 1, "plaintiff", 0);
        Checks.due(x, 0, "plaintiff", 1);
        // the last of four, by all six lines; who sits too
        x = Checks.town(people + "poet 0 0 3;".repeat(3) + "poet 0" + " 0 1".repeat(6) + ";");
        Checks.due(x, 3, "plaintiff", 0);
        Checks.due(x, 1, "years", 1);
        Checks.due(x, 15, "count", 8);
        Checks.due(x, 3, "plaintiff", 0);
        // a hit for which nothing is due
        x = Checks.town(people + "poet 9 0 3;fines 0-1;");
        Checks.due(x, -1, "plaintiff", 0);
        // who isn't hit gets nothing
        x = Checks.town(people + "poet 9 0 3;fines 5;");
        Checks.due(x, -1, "plaintiff", 1);
    }
}

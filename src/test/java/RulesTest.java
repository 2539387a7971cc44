import java.util.Random;

/** EXPR and VALUES: what rules give, at the edges of ints, of division, of tests, of each VALUE. */
public final class RulesTest {
    /** -2147483648 */
    private static final String LEAST = "(8192*8192*32)";

    public static void main(String[] args) {
        fromTheLeft();
        closerOnes();
        wrap();
        division();
        byNothing();
        tests();
        whatHolds();
        numbers();
        randomOnes();
        keptWithin();
        scars();
        purse();
        before();
        year();
        depthAndTrue();
        inches();
        rhymes();
        lesserWithoutHits();
        Checks.end();
    }

    /** "From the left". */
    private static void fromTheLeft() {
        worth("9-3-2", 4);
        worth("9-3+2", 8);
        worth("8/2/2", 2);
        worth("9/2*2", 8);
        worth("2*9/4", 4);
        worth("3*3/2*2", 8);
        worth("0-1-2+9", 6);
        worth("7-(3-2)", 6);
        worth("8/(4/2)", 4);
    }

    /** Products are closer than sums, sums than tests, tests than not, not than and, and than or. */
    private static void closerOnes() {
        worth("1+2*3", 7);
        worth("2*3+1", 7);
        worth("9-2*3", 3);
        worth("9-8/4", 7);
        worth("(1+2)*3", 9);
        worth("1+1<3", 1);
        worth("3<1+1", 0);
        worth("4=2+2", 1);
        worth("2*2=4", 1);
        worth("1+(1<3)", 2);
        worth("not 1+1", 0);
        worth("not 1=2", 1);
        worth("not 2<1", 1);
        worth("(not 1)+1", 1);
        worth("not 1 or 1", 1);
        worth("not (1 or 1)", 0);
        worth("not 0 and 0", 0);
        worth("not (0 and 0)", 1);
        worth("1 or 1 and 0", 1);
        worth("0 and 1 or 1", 1);
        worth("(1 or 1) and 0", 0);
        worth("0 or 0 or 1", 1);
        worth("1 and 1 and 0", 0);
        worth("0 and 0 or 0 or 1 and 1", 1);
        worth("1 and not 0 and not 0", 1);
        worth("not not 0", 0);
        worth("not not 5", 1);
        worth("not not not 5", 0);
        worth("not not not not not not 5", 1);
    }

    /** "ints that wrap". */
    private static void wrap() {
        worth(LEAST + "<0", 1);
        worth("(" + LEAST + "-1)/9999/9999", 9);
        worth("0<" + LEAST + "-1", 1);
        worth(LEAST + "+" + LEAST + "=0", 1);
        worth("0-" + LEAST + "<0", 1);
        worth(LEAST + "*2=0", 1);
        worth(LEAST + "*(0-1)=" + LEAST, 1);
        worth("9999*9999*9999<0", 1);
        worth("(9999*9999*9999-" + LEAST + "<0)+2", 2);
        worth("4096*4096*256+6", 6);
        worth("8192*8192*31+" + LEAST + "<0", 1);
    }

    /** "/ cut down to 0": towards it, on both sides. */
    private static void division() {
        worth("7/2", 3);
        worth("9+(0-7)/2", 6);
        worth("9+7/(0-2)", 6);
        worth("(0-7)/(0-2)", 3);
        worth("3+1/2", 3);
        worth("3+(0-1)/2", 3);
        worth("3+1/(0-2)", 3);
        worth("9998/9999", 0);
        worth("9999/9999", 1);
        worth("0/5+4", 4);
        worth(LEAST + "/(0-1)=" + LEAST, 1);
        worth(LEAST + "/1=" + LEAST, 1);
        worth(LEAST + "/2<0", 1);
    }

    /** "by 0 gives 0". */
    private static void byNothing() {
        worth("5/0", 0);
        worth("5/0+4", 4);
        worth("0/0+4", 4);
        worth("(0-5)/0+4", 4);
        worth(LEAST + "/0=0", 1);
        worth("8/(2-2)*3+2", 2);
        worth("8/0/2+3", 3);
        worth("8/(1/2)+3", 3);
        worth("8/(not 1)+3", 3);
    }

    /** "tests .. are 1 or 0". */
    private static void tests() {
        worth("2<3", 1);
        worth("3<3", 0);
        worth("4<3", 0);
        worth("2=3", 0);
        worth("3=3", 1);
        worth("4=3", 0);
        worth("0-1<0", 1);
        worth("0<0-1", 0);
        worth(LEAST + "<" + LEAST + "-1", 1);
        worth("(2<3)*7", 7);
        worth("(5=5)+(6=6)+(2<1)+(1<2)", 3);
        worth("(1<2)<3", 1);
        worth("(3<2)=0", 1);
    }

    /** "not, and, or are 1 or 0 (what isn't 0 holds)": 2 and what is below 0 too. */
    private static void whatHolds() {
        for (String holds : new String[] {"1", "2", "9999", "(0-1)", LEAST}) {
            worth("not " + holds, 0);
            worth("not not " + holds, 1);
            worth("3+(" + holds + " and 2)", 4);
            worth("3+(2 and " + holds + ")", 4);
            worth("3+(" + holds + " and 0)", 3);
            worth("3+(0 and " + holds + ")", 3);
            worth("3+(" + holds + " or 0)", 4);
            worth("3+(0 or " + holds + ")", 4);
            worth("3+(" + holds + " or 2)", 4);
        }
        worth("3+(not 0)", 4);
        worth("3+(0 or 0)", 3);
        worth("3+(0 and 0)", 3);
        worth("(0-1) and 1", 1);
    }

    /** "NUMBERS (1 to 4 digits)". */
    private static void numbers() {
        worth("0", 0);
        worth("0000", 0);
        worth("0009", 9);
        worth("007", 7);
        worth("9999/1000", 9);
        worth("(9999=9998+1)*5", 5);
        worth("1234-1230", 4);
    }

    /** Random sums, products and tests, with what Java gives for them. */
    private static void randomOnes() {
        Random random = new Random(3);
        for (int k = 0; k < 300; k++) {
            int a = random.nextInt(10000);
            int b = random.nextInt(10000);
            int c = random.nextInt(100);
            int d = 1 + random.nextInt(100);
            int e = random.nextInt(3) * random.nextInt(10);
            int value = a * b * c - b * b * a / d + (e == 0 ? 0 : a / e) - e;
            String text = a + "*" + b + "*" + c + "-" + b + "*" + b + "*" + a + "/" + d + "+" + a + "/" + e + "-" + e;
            // kept to 0 to 9 in four ways
            worth(text, Math.max(0, Math.min(9, value)));
            worth("0-(" + text + ")", Math.max(0, Math.min(9, -value)));
            worth("(" + text + ")/8192/8192", Math.max(0, Math.min(9, value / 8192 / 8192)));
            int rest = value - value / 8 * 8;
            worth("9+(" + text + ")-(" + text + ")/8*8", Math.max(0, Math.min(9, 9 + rest)));
        }
    }

    /** "what HITS gives .. kept to 0 to 9", "what FINES gives .. kept to 0 to 20". */
    private static void keptWithin() {
        int[] given = {-9999, -1, 0, 1, 8, 9, 10, 9999};
        for (int n : given) {
            worth(n < 0 ? "0-" + -n : "" + n, Math.max(0, Math.min(9, n)));
        }
        worth(LEAST, 0);
        worth(LEAST + "-1", 9);
        for (int n : new int[] {-9999, -1, 0, 1, 19, 20, 21, 9999}) {
            PoetFines x = Checks.town("person 0 1 0 0;poet 99 0 1;fines " + (n < 0 ? "0-" + -n : "" + n) + ";buys 0;");
            int fine = Math.max(0, Math.min(20, n));
            Checks.due(x, fine, "line", 0, 0, 3);
            Checks.due(x, fine, "then", 0, 1, 0);
            Checks.due(x, 99 - fine, "poetThen", 0, 1, 0);
        }
    }

    /** "'scars' (of the PERSON)". */
    private static void scars() {
        PoetFines x = Checks.town("person 0 3 0 0;person 0 4 0 0;person 9 0 0 0;poet 99 0 9;fines scars;buys scars<1;");
        // buys: no scars yet, so the third one pays; then its scars stay 0
        Checks.due(x, 1, "years", 1);
        Checks.due(x, 8, "person", 2, 0);
        Checks.due(x, 7, "line", 0, 0, 3);
        Checks.due(x, 2, "years", 1);
        Checks.due(x, 3, "person", 0, 0);
        Checks.due(x, 4, "person", 1, 0);
        Checks.due(x, 7, "person", 2, 0);
        Checks.due(x, 14, "line", 0, 0, 3);
        x = Checks.town("person 0 0 0 0;person 0 0 0 0;poet 9 0 9;hits scars+true+1;fines 0;");
        x.years(1);
        x.heal(1);
        Checks.due(x, 2, "probe", 0, 0, 0, 0);
        Checks.due(x, 1, "probe", 0, 1, 0, 0);
    }

    /** "'purse' (of who pays by it: HITS, FINES: of the POET; BUYS: of the PERSON)". */
    private static void purse() {
        PoetFines x = Checks.town("person 3 0 0 0;person 4 0 0 0;poet 7 0 0;poet 2 0 0;hits purse;fines purse+1;buys 0;");
        Checks.due(x, 7, "probe", 0, 0, 0, 0);
        Checks.due(x, 7, "probe", 0, 1, 0, 0);
        Checks.due(x, 2, "probe", 1, 0, 0, 0);
        Checks.due(x, 16, "line", 0, 0, 3);
        Checks.due(x, 6, "line", 1, 0, 3);
        x = Checks.town("person 3 0 0 0;person 4 0 0 0;poet 99 0 0;poet 4 0 0;buys purse=4;");
        Checks.due(x, 1, "years", 1);
        // the first poet sells to who has 4; the second finds 3
        Checks.due(x, 3, "person", 0, 0);
        Checks.due(x, 3, "person", 1, 0);
        Checks.due(x, 100, "poet", 0, 0);
        Checks.due(x, 4, "poet", 1, 0);
    }

    /** "'before' (in how many YEARS this POET has hit this PERSON, this reading not counted)". */
    private static void before() {
        PoetFines x = Checks.town("person 0 1 0 0;person 0 0 1 0;poet 99 0 9 0 9 1 9;poet 99 0 9;fines 10*before+1;buys 0;");
        // it pays 1, 11, 1 to the second person, 20
        int[] purse = {98, 87, 86, 66};
        for (int year = 0; year < 4; year++) {
            x.years(1);
            Checks.due(x, purse[year], "poet", 0, 0);
        }
        // three of the first poet's lines and four of the second one's went into the first person
        Checks.due(x, 7, "person", 0, 2);
        Checks.due(x, 1, "person", 1, 2);
        // the second one: 1, 11, 20, 20
        Checks.due(x, 99 - 52, "poet", 1, 0);
        x = Checks.town("person 9 1 0 0;person 9 0 0 0;poet 99 0 9;hits before<2 and true;fines 0;buys before=1;");
        x.years(5);
        // of the first one: hit in the years 0 and 1, who buys in the year 1, then no more
        Checks.due(x, 2, "person", 0, 2);
        Checks.due(x, 8, "person", 0, 0);
        Checks.due(x, 9, "person", 1, 0);
    }

    /** "'year'": the first one is 0, the same for all POETS of a YEAR. */
    private static void year() {
        String two = "poet 50 0 0;poet 50 0 0;";
        PoetFines x = Checks.town("person 0 0 0 0;" + two + "hits year;fines year;buys 0;");
        int[] scars = {0, 0, 2, 6};
        for (int years = 0; years < 4; years++) {
            Checks.due(x, scars[years], "then", 0, years, 1);
            Checks.due(x, 50 - scars[years] / 2, "poetThen", 0, years, 0);
            Checks.due(x, 50 - scars[years] / 2, "poetThen", 1, years, 0);
        }
        x.years(5);
        Checks.due(x, 5, "probe", 1, 0, 0, 0);
        x = Checks.town("person 9 0 0 0;" + two + "buys year=2;");
        Checks.due(x, 9, "then", 0, 2, 0);
        Checks.due(x, 7, "then", 0, 3, 0);
        Checks.due(x, 7, "then", 0, 9, 0);
    }

    /** "of HITS also 'depth' (of the LINE), 'true' (of its TOPIC, of the PERSON)". */
    private static void depthAndTrue() {
        PoetFines x = Checks.town("person 0 1 2 3;person 0 4 5 6;poet 99 2 7 0 1;hits true;fines 0;");
        Checks.due(x, 1, "probe", 0, 0, 0, 9);
        Checks.due(x, 5, "probe", 0, 1, 1, 9);
        Checks.due(x, 6, "probe", 0, 1, 2, 0);
        Checks.due(x, 9, "line", 0, 0, 4);
        Checks.due(x, 5, "line", 0, 1, 4);
        Checks.due(x, 10, "then", 1, 2, 1);
        x = Checks.town("person 0 1 2 3;poet 99 2 7 0 1;hits depth;fines 0;");
        Checks.due(x, 0, "probe", 0, 0, 0, 0);
        Checks.due(x, 9, "probe", 0, 0, 0, 9);
        Checks.due(x, 7, "line", 0, 0, 4);
        Checks.due(x, 8, "then", 0, 2, 1);
        // one and the other are of the line, not of the next one
        x.rewrite(0, 1, 4);
        Checks.due(x, 4, "line", 0, 1, 4);
        Checks.due(x, 7, "line", 0, 0, 4);
    }

    /** "of FINES also 'inches' (how deep this LINE went)": 1 to 9, as kept. */
    private static void inches() {
        PoetFines x = Checks.town("person 0 1 0 0;person 0 5 0 0;poet 99 0 3;fines 2*inches;buys 0;");
        Checks.due(x, 8, "line", 0, 0, 3);
        Checks.due(x, 2, "then", 0, 1, 0);
        Checks.due(x, 6, "then", 1, 1, 0);
        x = Checks.town("person 0 1 0 0;poet 99 0 3;hits 99;fines inches;");
        Checks.due(x, 9, "line", 0, 0, 3);
        // without FINES it is the INCHES
        x = Checks.town("person 0 1 0 0;person 0 0 0 0;poet 99 0 3;hits 99*true+4;buys 0;");
        Checks.due(x, 13, "line", 0, 0, 3);
        Checks.due(x, 9, "then", 0, 1, 0);
        Checks.due(x, 4, "then", 1, 1, 0);
    }

    /** "'rhymes' (1, if the TOPIC is that of the LINE one ahead in the POET's row, of the first one the last, else 0)". */
    private static void rhymes() {
        rhyming("0 1 0 2 1 3 0 4", 1, 1, 0, 0);
        rhyming("0 1 1 2 1 3 2 4", 0, 0, 1, 0);
        rhyming("0 1", 1);
        rhyming("0 1 0 1", 1, 1);
        rhyming("0 1 1 1", 0, 0);
        rhyming("0 1 1 1 2 1 2 1 1 1 0 1", 1, 0, 0, 1, 0, 0);
        // of the row, not of what was read last
        PoetFines x = Checks.town("person 0 9 9 9;poet 99 0 1 1 1 1 1;fines 5*rhymes;buys 0;");
        x.burn(0);
        Checks.due(x, 0, "then", 0, 1, 0);
        Checks.due(x, 5, "then", 0, 2, 0);
        x.burn(0);
        Checks.due(x, 5, "then", 0, 1, 0);
    }

    private static void rhyming(String lines, int... due) {
        PoetFines x = Checks.town("person 0 9 9 9;poet 9 0 1;poet 99 " + lines + ";fines 7*rhymes+1;");
        for (int line = 0; line < due.length; line++) {
            Checks.due(x, due[line], "line", 1, line, 2);
            Checks.due(x, 7 * due[line] + 1, "line", 1, line, 3);
        }
    }

    /** "(without it the lesser of DEPTH and TRUE)". */
    private static void lesserWithoutHits() {
        PoetFines x = Checks.town("person 0 0 5 9;poet 99 1 5;");
        for (int depth = 0; depth < 10; depth++) {
            Checks.due(x, 0, "probe", 0, 0, 0, depth);
            Checks.due(x, Math.min(5, depth), "probe", 0, 0, 1, depth);
            Checks.due(x, depth, "probe", 0, 0, 2, depth);
        }
    }

    /** What HITS gives of this EXPR. */
    private static void worth(String rule, int inches) {
        PoetFines x = Checks.town("person 7 0 4 0;poet 30 1 8;hits " + rule + ";");
        Checks.due(x, inches, "probe", 0, 0, 1, 5);
        Checks.due(x, inches, "line", 0, 0, 4);
    }
}

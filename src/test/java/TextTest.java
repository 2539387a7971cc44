/** Promises 1 to 4: a new object, the tape, texts and their faults; and what rules give. */
public final class TextTest {
    private static final String EIGHT = "person 1 1 1 1;".repeat(8);
    private static final String FOUR = "poet 1 0 1;".repeat(4);

    public static void main(String[] args) {
        newObject();
        tape();
        tokens();
        misplaced();
        tooMuch();
        unknownOrTwice();
        faultKeepsAll();
        stateIsAnew();
        expressions();
        Checks.end();
    }

    private static void newObject() {
        PoetFines x = new PoetFines();
        int[] due = {3, 0, 0, 0, 0, 0, 0, 0, 0, 0, 0, 0, 0, 0, 0};
        for (int what = 0; what < due.length; what++) {
            Checks.due(x, due[what], "count", what);
        }
        Checks.due(x, -1, "fault");
        Checks.due(x, Checks.NO_SUCH, "person", 0, 0);
        Checks.due(x, Checks.NO_SUCH, "poet", 0, 0);
        Checks.due(x, false, "restore");
        Checks.due(x, -1, "undo");
        Checks.due(x, 0, "state", 0);
    }

    private static void tape() {
        PoetFines x = new PoetFines();
        for (int k = 1; k <= 35; k++) {
            Checks.due(x, 20 * k, "feed", 0x20202020, 0x20202020, 0x20202020, 0x20202020, 0x20202020);
        }
        Checks.due(x, -1, "feed", 0, 0, 0, 0, 0);
        Checks.due(x, 700, "count", 11);
        Checks.due(x, Checks.WRONG, "state", 701);
        Checks.due(x, Checks.WRONG, "state", -1);
        Checks.due(x, Checks.WRONG, "state", Integer.MIN_VALUE);
        Checks.due(x, 700, "count", 11);
        Checks.due(x, 0, "state", 700);
        Checks.due(x, 0, "count", 11);
        Checks.due(x, Checks.WRONG, "state", 1);
        // "person 5 1 2 3;", the highest byte of each number first, and a byte that is none behind
        Checks.due(x, 20, "feed", 0x70657273, 0x6f6e2035, 0x20312032, 0x20333bff, 0x20202020);
        Checks.due(x, 0, "state", 15);
        Checks.due(x, 5, "person", 0, 0);
        Checks.due(x, 3, "person", 0, 12);
        Checks.due(x, 20, "feed", 0x70657273, 0x6f6e2035, 0x20312032, 0x20333bff, 0x20202020);
        Checks.due(x, 1, "state", 16);
        Checks.due(x, 15, "fault");
    }

    private static void tokens() {
        Checks.reads("", 0, -1);
        Checks.reads(" \n ", 0, -1);
        Checks.reads("topics 2;", 0, -1);
        Checks.reads("\n topics\n0002 ;person05 0 9;poet99 1 0;", 0, -1);
        Checks.reads("hits((1));fines(1)+2;buys not(1);", 0, -1);
        Checks.reads("topics 4;person 99 0 1 2 3;poet 0 3 9 2 8 1 7 0 6 0 0 3 3;", 0, -1);
        Checks.reads(EIGHT + FOUR + "buys 1;fines 1;hits 1;", 0, -1);
        Checks.reads("person\t1 2 3 4;", 1, 6);
        Checks.reads("Person 1 2 3 4;", 1, 0);
        Checks.reads("person 1,2 3 4;", 1, 8);
        Checks.reads("person 1 2 3 4;" + (char) 233, 1, 15);
        Checks.reads("person 1 2 3 4;" + (char) 0, 1, 15);
        Checks.reads("persons 1 2 3 4;", 1, 0);
        Checks.reads("hits 1and2or3;", 0, -1);
    }

    private static void misplaced() {
        Checks.reads("topics", 1, 6);
        Checks.reads("topics ;", 1, 7);
        Checks.reads("topics 2", 1, 8);
        Checks.reads("topics 2  ", 1, 10);
        Checks.reads("topics 2 2;", 1, 9);
        Checks.reads("person 1 2 3 4;topics 2;", 1, 15);
        Checks.reads("5;", 1, 0);
        Checks.reads(";", 1, 0);
        Checks.reads("12345;", 1, 0);
        Checks.reads("person 1 2 3 4;;", 1, 15);
        Checks.reads("person 1 2 3 4", 1, 14);
        Checks.reads("person 1 2 3 4 \n", 1, 16);
        Checks.reads("person 1 2 3;", 1, 12);
        Checks.reads("person 1 2 3 4 5;", 1, 15);
        Checks.reads("person 1 2 3 4 55555;", 1, 15);
        Checks.reads("topics 2;person 1 2 3 4;", 1, 22);
        Checks.reads("person x 2 3 4;", 1, 7);
        Checks.reads("poet;", 1, 4);
        Checks.reads("poet 1;", 1, 6);
        Checks.reads("poet 1 0;", 1, 8);
        Checks.reads("poet 1 0 1 0;", 1, 12);
        Checks.reads("poet 1 0 1 x;", 1, 11);
        Checks.reads("hits", 1, 4);
        Checks.reads("hits ;", 1, 5);
        Checks.reads("hits )", 1, 5);
        Checks.reads("hits -1;", 1, 5);
        Checks.reads("hits #;", 1, 5);
        Checks.reads("hits 1 2;", 1, 7);
        Checks.reads("hits 1 23456;", 1, 7);
        Checks.reads("hits 1 depth;", 1, 7);
        Checks.reads("hits 1 not 2;", 1, 7);
        Checks.reads("hits 1 foo;", 1, 7);
        Checks.reads("hits 1<2<3;", 1, 8);
        Checks.reads("hits 1=2=3;", 1, 8);
        Checks.reads("hits 1<2=3;", 1, 8);
        Checks.reads("hits (1;", 1, 7);
        Checks.reads("hits (1", 1, 7);
        Checks.reads("hits 1);", 1, 6);
        Checks.reads("hits 1+;", 1, 7);
        Checks.reads("hits 1*+2;", 1, 7);
        Checks.reads("hits not;", 1, 8);
        Checks.reads("hits ();", 1, 6);
        Checks.reads("hits ((((((;", 1, 11);
        Checks.reads("hits (((((()", 1, 11);
        Checks.reads("hits ((((((+", 1, 11);
        Checks.reads("hits ((((((", 1, 11);
        Checks.reads("hits 1 or;", 1, 9);
    }

    private static void tooMuch() {
        Checks.reads("topics 1;", 2, 7);
        Checks.reads("topics 5;", 2, 7);
        Checks.reads("topics 00002;", 2, 7);
        Checks.reads("person 100 0 0 0;", 2, 7);
        Checks.reads("person 99999999999999999999 0 0 0;", 2, 7);
        Checks.reads("person 00001 0 0 0;", 2, 7);
        Checks.reads("person 0001 0 0 0;", 0, -1);
        Checks.reads("person 1 0 0 10;", 2, 13);
        Checks.reads("poet 100 0 1;", 2, 5);
        Checks.reads("poet 1 0 10;", 2, 9);
        Checks.reads("poet 1 00000 1;", 2, 7);
        Checks.reads("poet 1 00003 1;", 2, 7);
        Checks.reads("poet 1 12345 1;", 2, 7);
        Checks.reads("poet 1 12345" + (char) 0, 2, 7);
        Checks.reads("poet 1 99999999999999999999 1;", 2, 7);
        Checks.reads("poet 1 0 1 10000 1;", 2, 11);
        Checks.reads("poet 1" + " 0 1".repeat(6) + ";", 0, -1);
        Checks.reads("poet 1" + " 0 1".repeat(6) + " 0 1;", 2, 31);
        Checks.reads("poet 1" + " 0 1".repeat(6) + " 9 1;", 2, 31);
        Checks.reads("poet 1" + " 0 1".repeat(6) + " 99999 1;", 2, 31);
        Checks.reads("poet 1" + " 0 1".repeat(6) + " x;", 1, 31);
        Checks.reads(EIGHT + "person 1 1 1 1;", 2, 120);
        Checks.reads(EIGHT + "person", 2, 120);
        Checks.reads(FOUR + "poet 1 0 1;", 2, 44);
        Checks.reads("hits 9999;", 0, -1);
        Checks.reads("hits 10000;", 2, 5);
        Checks.reads("hits 00001;", 2, 5);
        Checks.reads("hits (((((1)))));", 0, -1);
        Checks.reads("hits ((((((1))))));", 2, 11);
        Checks.reads("hits (((((((1)))))));", 2, 11);
        Checks.reads("hits ((((((depth))))));", 2, 11);
        Checks.reads("hits ((((((foo))))));", 2, 11);
        Checks.reads("hits ((((((not 1))))));", 2, 11);
        Checks.reads("hits (((((1)))))+(((((2)))));", 0, -1);
        Checks.reads("hits " + "not ".repeat(6) + "1;", 0, -1);
        Checks.reads("hits " + "not ".repeat(7) + "1;", 2, 29);
        Checks.reads("hits " + "not ".repeat(6) + "(" + "not ".repeat(6) + "1);", 0, -1);
        Checks.reads("hits not 1 and not 1 and not 1 and not 1 and not 1 and not 1 and not 1;", 0, -1);
    }

    private static void unknownOrTwice() {
        for (String word : new String[] {"foo", "inches", "rhymes", "and", "or", "hits", "topics"}) {
            Checks.reads("hits " + word + ";", 3, 5);
        }
        for (String word : new String[] {"depth", "true", "person"}) {
            Checks.reads("fines " + word + ";", 3, 6);
        }
        for (String word : new String[] {"depth", "true", "inches", "rhymes"}) {
            Checks.reads("buys " + word + ";", 3, 5);
        }
        Checks.reads("hits scars+purse+before+year+depth+true;", 0, -1);
        Checks.reads("fines scars+purse+before+year+inches+rhymes;", 0, -1);
        Checks.reads("buys scars+purse+before+year;", 0, -1);
        Checks.reads("hits 1+not 2;", 3, 7);
        Checks.reads("hits 1<not 2;", 3, 7);
        Checks.reads("hits 1*not;", 3, 7);
        Checks.reads("poet 1 3 1;", 3, 7);
        Checks.reads("topics 2;poet 1 0 1 2 1;", 3, 20);
        Checks.reads("topics 4;poet 1 3 1;", 0, -1);
        Checks.reads("poet 1 9999 1;", 3, 7);
        Checks.reads("poet 1 0004 1;", 3, 7);
        Checks.reads("poet 1 0 1 9999", 3, 11);
        Checks.reads("topics 2;poet 1 2", 3, 16);
        Checks.reads("hits 1;hits 1;", 5, 7);
        Checks.reads("hits 1;fines 1;buys 1;fines 1;", 5, 22);
        Checks.reads("buys 1;buys", 5, 7);
        Checks.reads("person 100 0 0 0;poet x", 2, 7);
    }

    private static void faultKeepsAll() {
        PoetFines x = Checks.town("topics 2;person 7 1 1;poet 3 0 1 1 1;");
        Checks.due(x, 1, "years", 1);
        Checks.due(x, 1, "feel", 0, 1, true);
        x.image();
        Checks.due(x, 1, "state", Checks.load(x, "person 1 2;"));
        Checks.due(x, 10, "fault");
        Checks.due(x, 0, "count", 11);
        Checks.due(x, 1, "count", 12);
        Checks.due(x, 2, "count", 0);
        Checks.due(x, 1, "count", 1);
        Checks.due(x, 1, "count", 3);
        Checks.due(x, 1, "count", 9);
        Checks.due(x, 1, "count", 10);
        Checks.due(x, 7, "person", 0, 0);
        Checks.due(x, true, "restore");
        Checks.due(x, Checks.WRONG, "state", 1);
        Checks.due(x, 10, "fault");
        Checks.due(x, 1, "count", 12);
    }

    private static void stateIsAnew() {
        PoetFines x = Checks.town("topics 2;person 7 1 1;poet 3 0 1 1 1;hits 0;fines 0;buys 0;");
        Checks.due(x, 5, "years", 5);
        Checks.due(x, -1, "years", 0);
        Checks.due(x, 1, "feel", 0, 1, true);
        Checks.due(x, -1, "feel", 0, 0, true);
        x.image();
        Checks.due(x, 0, "state", Checks.load(x, "person 1 2 3 4;poet 9 0 5;"));
        Checks.due(x, -1, "fault");
        int[] due = {3, 1, 1, 0, 1, 9, 0, 1, 0, 0, 0, 0, 0, 1, 1};
        for (int what = 0; what < due.length; what++) {
            Checks.due(x, due[what], "count", what);
        }
        Checks.due(x, false, "restore");
        Checks.due(x, -1, "undo");
        Checks.due(x, 2, "then", 0, 1, 1);
        Checks.due(x, 1, "poetThen", 0, 1, 4);
        // bytes behind the first n are gone too
        Checks.load(x, "person 1 2 3 4;person 1 2 3 4;");
        Checks.due(x, 0, "state", 15);
        Checks.due(x, 1, "count", 1);
        Checks.due(x, 0, "count", 11);
    }

    private static void expressions() {
        worth("7/2", 3);
        worth("(0-7)/2+9", 6);
        worth("1/0+4", 4);
        worth("0-1/0+2", 2);
        worth("2+3*2", 8);
        worth("9-3-2", 4);
        worth("8/2/2", 2);
        worth("8/2*2", 8);
        worth("1 or 0 and 0", 1);
        worth("0 and 0 or 1", 1);
        worth("not 0+5", 0);
        worth("not 3<2", 1);
        worth("not 0 and 0", 0);
        worth("(2<3)+(3<3)+(3=3)+(4=3)", 2);
        worth("5 and 7", 1);
        worth("(0-3) or 0", 1);
        worth("not not 7", 1);
        worth("1+1<3", 1);
        worth("2*3=6", 1);
        worth("(9999*9999*9999<0)+3", 4);
        worth("(2000*2000*537<0)+3", 4);
        worth("0-3", 0);
        worth("50", 9);
        worth("depth", 5);
        worth("true", 4);
        worth("purse/10", 3);
        worth("scars+before+year+6", 6);
    }

    private static void worth(String rule, int inches) {
        PoetFines x = Checks.town("person 7 0 4 0;poet 30 1 8;hits " + rule + ";");
        Checks.due(x, inches, "probe", 0, 0, 1, 5);
    }
}

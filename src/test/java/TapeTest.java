import java.util.Random;

/** Promises 2 to 4 and the text's bytes: the tape at empty and at full, each byte, what a text leaves behind. */
public final class TapeTest {
    public static void main(String[] args) {
        bytesComeHighestFirst();
        fullTape();
        firstBytesOnly();
        notSoMany();
        eachByteAlone();
        eachByteBehindANumber();
        eachByteBehindAWord();
        longestRow();
        blanksCountForNothing();
        wholeText();
        placeOfTheLatest();
        firstAlongTheText();
        faultKeepsAll();
        allAnew();
        oneBehindAnother();
        Checks.end();
    }

    /** "Twenty bytes come behind the tape, of each number the highest first". */
    private static void bytesComeHighestFirst() {
        for (int place = 15; place < 20; place++) {
            PoetFines x = new PoetFines();
            Checks.due(x, 20, "feed", 0x70657273, 0x6f6e2031, 0x20322033, 0x20343b3b, 0x3b3b3b3b);
            Checks.due(x, place == 15 ? 0 : 1, "state", place);
            Checks.due(x, place == 15 ? -1 : 15, "fault");
        }
        // each of the twenty places: a byte that is none there, of a number below 0 too
        for (int place = 0; place < 20; place++) {
            int[] row = {0x20202020, 0x20202020, 0x20202020, 0x20202020, 0x20202020};
            row[place / 4] = row[place / 4] & ~(255 << 24 - place % 4 * 8) | 0x80 << 24 - place % 4 * 8;
            PoetFines x = new PoetFines();
            Checks.due(x, 20, "feed", row[0], row[1], row[2], row[3], row[4]);
            Checks.due(x, 1, "state", 20);
            Checks.due(x, place, "fault");
        }
        // the second twenty stand behind the first
        PoetFines x = new PoetFines();
        Checks.due(x, 20, "feed", 0x20202020, 0x20202020, 0x20202020, 0x20202020, 0x20206275);
        Checks.due(x, 40, "feed", 0x79732031, 0x3b202020, 0x20202020, 0x20202020, 0x20202023);
        Checks.due(x, 1, "state", 40);
        Checks.due(x, 39, "fault");
    }

    /** "NONE, and none come, if it would have more than 700". */
    private static void fullTape() {
        PoetFines x = new PoetFines();
        String text = " ".repeat(685) + "person 7 2 3 4;";
        Checks.same("bytes", Checks.load(x, text), 700);
        Checks.due(x, 700, "count", 11);
        Checks.due(x, -1, "feed", -1, -1, -1, -1, -1);
        Checks.due(x, -1, "feed", 0x20202020, 0x20202020, 0x20202020, 0x20202020, 0x20202020);
        Checks.due(x, 700, "count", 11);
        Checks.due(x, 0, "count", 12);
        Checks.due(x, Checks.WRONG, "state", 701);
        Checks.due(x, 0, "state", 700);
        Checks.due(x, 7, "person", 0, 0);
        // it is empty then, and can be filled again
        for (int k = 1; k <= 35; k++) {
            Checks.due(x, 20 * k, "feed", 0, 0, 0, 0, k);
        }
        Checks.due(x, -1, "feed", 0, 0, 0, 0, 0);
        Checks.due(x, 1, "state", 700);
        Checks.due(x, 0, "fault");
        Checks.due(x, 20, "feed", 0, 0, 0, 0, 0);
    }

    /** "The tape's first n bytes (it is empty then)": those behind are gone as well. */
    private static void firstBytesOnly() {
        String text = "poet 1 0 1;poet 2 0 1;";
        for (int n = 0; n <= text.length(); n++) {
            PoetFines x = new PoetFines();
            Checks.load(x, text);
            boolean whole = n % 11 == 0;
            Object due = whole ? 0 : 1;
            Checks.due(x, due, "state", n);
            Checks.due(x, whole ? n / 11 : 0, "count", 2);
            Checks.due(x, 0, "count", 11);
            Checks.due(x, Checks.WRONG, "state", 1);
            Checks.due(x, 0, "state", 0);
            Checks.due(x, 0, "count", 2);
        }
    }

    /** "IllegalArgumentException: the tape has not so many, n below 0 (nothing changes)". */
    private static void notSoMany() {
        PoetFines x = new PoetFines();
        for (int n : new int[] {1, 20, 700, 701, -1, Integer.MAX_VALUE, Integer.MIN_VALUE}) {
            Checks.due(x, Checks.WRONG, "state", n);
        }
        x = lived();
        Checks.load(x, "poet 1 0 1;");
        String facts = Checks.facts(x);
        for (int n : new int[] {21, 22, 700, -1, -20, Integer.MAX_VALUE, Integer.MIN_VALUE}) {
            Checks.due(x, Checks.WRONG, "state", n);
            Checks.same("facts behind " + n, Checks.facts(x), facts);
        }
        Checks.due(x, 1, "count", 12);
        Checks.due(x, 0, "state", 20);
        Checks.due(x, 1, "count", 2);
    }

    /** "blanks (32, 10)"; no other byte is a text alone. */
    private static void eachByteAlone() {
        for (int b = 0; b < 256; b++) {
            boolean blank = b == 32 || b == 10;
            Checks.reads("" + (char) b, blank ? 0 : 1, blank ? -1 : 0);
        }
    }

    /** "NUMBERS (1 to 4 digits), signs ; ( ) + - * / < =": what each byte is behind and ahead of a digit. */
    private static void eachByteBehindANumber() {
        for (int b = 0; b < 256; b++) {
            String text = "hits 3" + (char) b + "2;";
            if ("+-*/<=0123456789".indexOf(b) >= 0) {
                Checks.reads(text, 0, -1);
            } else {
                Checks.reads(text, 1, b == 32 || b == 10 || b == ';' ? 7 : 6);
            }
        }
    }

    /** "words (a .. z, the longest row)": what each byte is behind a word. */
    private static void eachByteBehindAWord() {
        for (int b = 0; b < 256; b++) {
            String text = "hits scars" + (char) b + "2;";
            if (b >= 'a' && b <= 'z') {
                Checks.reads(text, 3, 5);
            } else if ("+-*/<=".indexOf(b) >= 0) {
                Checks.reads(text, 0, -1);
            } else {
                Checks.reads(text, 1, b == 32 || b == 10 || b == ';' ? 11 : 10);
            }
        }
    }

    /** "the longest row": a word goes as far as letters do, a number as far as digits do. */
    private static void longestRow() {
        Checks.reads("hits scarsandscars;", 3, 5);
        Checks.reads("hits 1 orscars;", 1, 7);
        Checks.reads("hits notnot 1;", 3, 5);
        Checks.reads("hits not1;", 0, -1);
        Checks.reads("hits 1or 2and(3)or 4;", 0, -1);
        Checks.reads("person1 2 3 4;poet1 0 1;topics", 1, 24);
        Checks.reads("topics2;hits1;fines(1);buys scars;", 0, -1);
        Checks.reads("person 1 2 34;", 2, 11);
        Checks.reads("hits 12345678;", 2, 5);
        Checks.reads("hits 1234 5678;", 1, 10);
        Checks.reads("hits", 1, 4);
        Checks.reads("hit", 1, 0);
        Checks.reads("t opics 2;", 1, 0);
    }

    /** "blanks (32, 10) between them count for nothing". */
    private static void blanksCountForNothing() {
        String[] tokens = {"topics", "4", ";", "person", "99", "0", "1", "2", "9", ";", "poet", "0", "3", "9", "0", "0",
            ";", "hits", "not", "(", "depth", "<", "true", ")", "or", "1", "+", "2", "*", "3", "/", "4", "-", "5", "=",
            "6", ";", "fines", "inches", "and", "rhymes", ";", "buys", "9999", ";"};
        Random random = new Random(7);
        for (int k = 0; k < 40; k++) {
            StringBuilder text = new StringBuilder();
            for (String token : tokens) {
                String blanks = " ".repeat(random.nextInt(3)) + "\n".repeat(random.nextInt(3)) + (k % 2 == 0 ? " " : "\n");
                text.append(token).append(token.matches("[a-z0-9]+") ? blanks : blanks.substring(1));
            }
            Checks.reads("\n" + text, 0, -1);
            Checks.reads(text + "#", 1, text.length());
        }
    }

    /** "A TEXT of at most 700 bytes": all of them count, however many TOKENS they are. */
    private static void wholeText() {
        String text = " hits 1" + "+1".repeat(346) + ";";
        Checks.same("bytes", text.length(), 700);
        Checks.reads(text, 0, -1);
        Checks.reads(text.substring(0, 699) + "#", 1, 699);
        Checks.reads(text.substring(0, 699), 1, 699);
        Checks.reads(";".repeat(700), 1, 0);
        Checks.reads("hits " + "(".repeat(695), 2, 11);
        Checks.reads("hits " + "not ".repeat(173) + "not", 2, 29);
        Checks.reads("a".repeat(700), 1, 0);
        Checks.reads("hits " + "a".repeat(695), 3, 5);
        Checks.reads("hits " + "1".repeat(695), 2, 5);
        Checks.reads("hits 1" + " ".repeat(693) + ";", 0, -1);
        Checks.reads("hits 1" + " ".repeat(694), 1, 700);
        longRuleGives();
    }

    private static void longRuleGives() {
        // the last of all tokens changes what the rule gives: 3, then 8
        for (int last : new int[] {3, 8}) {
            String ahead = "person 0 0 0 0;poet 0 0 0;hits 0";
            String text = ahead + "+0".repeat((700 - ahead.length() - 3) / 2) + "+" + last + ";";
            PoetFines x = Checks.town(text);
            Checks.due(x, last, "probe", 0, 0, 0, 0);
        }
    }

    /** "The place of the latest state()'s FAULT; NONE without". */
    private static void placeOfTheLatest() {
        PoetFines x = new PoetFines();
        Checks.due(x, -1, "fault");
        Checks.due(x, 1, "state", Checks.load(x, "x"));
        Checks.due(x, 0, "fault");
        Checks.due(x, Checks.WRONG, "state", 1);
        Checks.due(x, 0, "fault");
        Checks.due(x, 2, "state", Checks.load(x, "topics 5;"));
        Checks.due(x, 7, "fault");
        Checks.due(x, 1, "years", 1);
        Checks.due(x, 0, "undo");
        Checks.due(x, -1, "years", 0);
        Checks.due(x, 7, "fault");
        Checks.due(x, 0, "state", 0);
        Checks.due(x, -1, "fault");
        Checks.due(x, 2, "count", 12);
    }

    /** "FAULTS, the first along the text": not the least of the text. */
    private static void firstAlongTheText() {
        Checks.reads("poet 1 3 1;x", 3, 7);
        Checks.reads("poet 1 0 10;hits foo;x", 2, 9);
        Checks.reads("hits 1;hits foo;x", 5, 7);
        Checks.reads("hits foo;hits 1;#", 3, 5);
        Checks.reads("topics 9;topics 9;", 2, 7);
        Checks.reads("# topics 9;", 1, 0);
        Checks.reads("person 1 2 3 4 5;person 100", 1, 15);
        // "at a TOKEN's first byte", of a long one too
        Checks.reads("hits   foofoofoo;", 3, 7);
        Checks.reads("hits 1+\n\n12345;", 2, 9);
    }

    /** "or the FAULT (all stays)": but the tape is empty and STATUS 0 is more. */
    private static void faultKeepsAll() {
        String[] faulty = {"x", "topics 4;person 1 1 1 1 1;poet 9 0 1;hits 9;fines 9;buys 9;;",
            "topics 4;" + "person 1 1 1 1 1;".repeat(8) + "poet 1 3 9;".repeat(4) + "hits 9;fines 9;buys 9;buys 9;"};
        for (String text : faulty) {
            PoetFines x = lived();
            PoetFines y = lived();
            Checks.same("as the other", Checks.facts(x), Checks.facts(y));
            int n = Checks.load(x, text);
            Checks.same("a fault", (int) Checks.answer(x, "state", n) > 0, true);
            Checks.due(x, 2, "count", 12);
            Checks.due(x, 1, "state", Checks.load(x, "x"));
            Checks.due(x, 3, "count", 12);
            Checks.due(x, 0, "fault");
            Checks.same("as ahead of it", Checks.facts(x), Checks.facts(y));
            for (String call : new String[] {"then 0 9 0", "then 1 9 1", "poetThen 1 9 0", "truths 0", "truths 1",
                "decades 1 9 2", "probe 0 0 1 9", "action 0", "undo", "undo", "undo", "count 3", "undo", "person 0 0"}) {
                Checks.due(x, Checks.ask(y, call), call);
            }
            Checks.due(x, true, "restore");
            Checks.due(y, true, "restore");
            Checks.same("as the image", Checks.facts(x), Checks.facts(y));
        }
    }

    /** "all anew .. ACTS, what is FELT, the image are gone (STATUS stays)". */
    private static void allAnew() {
        PoetFines x = lived();
        Checks.due(x, -1, "years", 0);
        Checks.due(x, -1, "feel", 0, 0, true);
        Checks.due(x, 0, "state", Checks.load(x, Checks.BASE));
        PoetFines y = Checks.town(Checks.BASE);
        Checks.same("as a new one", Checks.facts(x), Checks.facts(y));
        int[] status = {1, 1, 1};
        for (int k = 0; k < 3; k++) {
            Checks.due(x, status[k], "count", 12 + k);
        }
        Checks.due(x, false, "restore");
        Checks.due(x, -1, "undo");
        Checks.due(x, 1, "truths", 2);
        for (int years = 0; years < 9; years++) {
            for (int person = 0; person < 3; person++) {
                Checks.due(x, y.then(person, years, 0), "then", person, years, 0);
                Checks.due(x, y.then(person, years, 1), "then", person, years, 1);
            }
        }
        // the empty text is nobody, with 3 TOPICS and no rule
        Checks.due(x, 0, "state", 0);
        Checks.same("as a new one", Checks.facts(x), Checks.facts(new PoetFines()));
        Checks.due(x, 0, "state", Checks.load(x, "person 3 0 4 0;poet 9 1 7;"));
        Checks.due(x, 4, "probe", 0, 0, 1, 7);
        Checks.due(x, 4, "line", 0, 0, 3);
        Checks.due(x, 1, "poetThen", 0, 1, 4);
    }

    /** "all anew": nothing of a larger state, of a longer rule, of what was asked is left in a smaller one. */
    private static void oneBehindAnother() {
        PoetFines x = new PoetFines();
        String[] texts = {"topics 4;" + "person 9 9 9 9 9;".repeat(8) + ("poet 9" + " 3 9 2 8 1 7".repeat(2) + ";").repeat(4),
            "person 1 2 3 4;person 0 1 1 1;poet 3 0 5;poet 9 1 4 2 9;", "topics 2;poet 1 0 9;", "person 3 3 3 3;",
            "topics 4;" + "person 0 0 0 0 0;".repeat(8) + "poet 0 3 0;".repeat(4)};
        for (int k = 0; k < 12; k++) {
            String text = texts[k * 7 % 5];
            // one's rules are long, so that those of many texts would not fit together
            String rules = k % 3 == 0 ? "hits true" + "+0".repeat(200) + ";fines " + k + ";" : k % 3 == 1 ? "buys 0;" : "";
            Checks.due(x, 0, "state", Checks.load(x, text + rules));
            Checks.due(x, -1, "fault");
            PoetFines y = Checks.town(text + rules);
            Checks.same("as a new one", Checks.facts(x).length(), Checks.facts(y).length());
            for (String call : new String[] {"later 9 0", "later 9 1", "later 9 2", "later 9 3", "later 9 4", "worst 9 0",
                "worst 9 1", "readings -1", "truths 0", "truths 1", "listen 0", "listen 1", "decades 4 9 0", "decades 4 9 2",
                "action 0", "sonnet 0 1", "plaintiff 0", "best 9 1", "poet 3 1", "poet 3 4"}) {
                Checks.due(x, Checks.ask(y, call), call);
            }
        }
    }

    /** Years, acts, an image, something felt and a refused text are behind this one. */
    private static PoetFines lived() {
        PoetFines x = Checks.town(Checks.BASE + "hits (depth<true)+scars/9+1;fines inches+before;buys purse;");
        Checks.due(x, 2, "state", Checks.load(x, "topics 9;"));
        x.years(3);
        x.feel(0, 1, true);
        x.image();
        x.fill(0, 77);
        x.burn(0);
        x.rewrite(0, 1, 9);
        x.feel(1, 2, false);
        return x;
    }
}

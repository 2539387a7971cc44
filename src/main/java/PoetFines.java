import java.util.NoSuchElementException;

/** A litigious little state: poets read, people are hit, damages are by the inch. */
public final class PoetFines {
    public static final int NONE = -1;

    private static final int TAPE = 700;
    private static final int FED = 5;
    private static final int MOST_TOPICS = 4;
    private static final int MOST_PEOPLE = 8;
    private static final int MOST_POETS = 4;
    private static final int MOST_LINES = 6;
    private static final int MOST_ACTS = 40;
    private static final int MOST_FELT = 8;
    private static final int MOST_GIVEN = 99;
    private static final int MOST_HELD = 999;
    private static final int MOST_SCARS = 99;
    private static final int MOST_INCHES = 9;
    private static final int MOST_FINE = 20;
    private static final int MOST_SITTING = 9;
    private static final int DEEPEST = 9;
    private static final int SPAN = 60;
    private static final int YEARS_AT_ONCE = 20;
    private static final int LAST_YEAR = 9999;

    private final byte[] tape = new byte[TAPE];
    private int taped = 0;
    private int faultAt = NONE;
    /** STATUS: refused texts, acts, feelings. */
    private final int[] refused = new int[3];
    private final Law law = new Law();
    private final Parser parser = new Parser(tape);
    private final Chronicle chronicle = new Chronicle();
    private final Chronicle kept = new Chronicle();
    private boolean isKept = false;
    private final Stage stage = new Stage(law, chronicle.now);
    private final Court court = new Court(law, stage);
    private final Oracle oracle = new Oracle(law, chronicle);

    public PoetFines() {
    }

    public int feed(int a, int b, int c, int d, int e) {
        if (taped + FED * 4 > TAPE) {
            return NONE;
        }
        putBytes(a);
        putBytes(b);
        putBytes(c);
        putBytes(d);
        putBytes(e);
        return taped;
    }

    public int state(int n) throws IllegalArgumentException {
        if (n < 0 || n > taped) {
            throw new IllegalArgumentException("the tape has not so many bytes");
        }
        taped = 0;
        int found = parser.parse(n);
        faultAt = parser.faultAt;
        if (found != 0) {
            refused[0]++;
            return found;
        }
        law.copyFrom(parser.law);
        chronicle.beginWith(parser.world);
        isKept = false;
        return 0;
    }

    public int fault() {
        return faultAt;
    }

    public int count(int what) throws NoSuchElementException {
        World now = chronicle.now;
        switch (what) {
            case 0: return law.topics;
            case 1: return law.people;
            case 2: return law.poets;
            case 3: return now.cells[World.YEAR];
            case 4: return now.total(World.MONEY, law.people);
            case 5: return now.total(World.PURSE, law.poets);
            case 6: return now.total(World.SCARS, law.people);
            case 7: return now.unscarred(law.people);
            case 8: return now.sitting(law.poets);
            case 9: return chronicle.acts;
            case 10: return chronicle.felt;
            case 11: return taped;
            case 12: return refused[0];
            case 13: return refused[1];
            case 14: return refused[2];
            default: throw new NoSuchElementException("no such count");
        }
    }

    public int person(int person, int what) throws NoSuchElementException {
        needPerson(person);
        if (what >= 10 && what - 10 < law.topics) {
            return law.truthOf(person, what - 10);
        }
        needWhat(what, 2);
        return chronicle.now.ofPerson(person, what, law.poets);
    }

    public int poet(int poet, int what) throws NoSuchElementException {
        needPoet(poet);
        needWhat(what, 4);
        switch (what) {
            case 0: return chronicle.now.cells[World.PURSE + poet];
            case 1: return law.lines[poet];
            case 2: return chronicle.now.cells[World.NEXT + poet];
            case 3: return chronicle.now.cells[World.SITS + poet];
            default: return court.nextHits(poet);
        }
    }

    public int line(int poet, int line, int what) throws NoSuchElementException {
        needLine(poet, line);
        needWhat(what, 4);
        switch (what) {
            case 0: return law.topicOf(poet, line);
            case 1: return chronicle.now.depthOf(poet, line);
            case 2: return law.rhymes(poet, line);
            case 3: return court.fineOfLine(poet, line);
            default: return court.inchesOfLine(poet, line);
        }
    }

    public int years(int many) {
        int year = chronicle.now.cells[World.YEAR];
        if (many < 1 || many > YEARS_AT_ONCE || year + many > LAST_YEAR) {
            return refusedAct();
        }
        chronicle.remember();
        for (int k = 0; k < many; k++) {
            stage.passYear(false);
        }
        return chronicle.now.cells[World.YEAR];
    }

    public int burn(int poet) throws NoSuchElementException {
        needPoet(poet);
        if (law.lines[poet] < 2) {
            return refusedAct();
        }
        chronicle.remember();
        int was = chronicle.now.cells[World.NEXT + poet];
        stage.turnPage(poet);
        return was;
    }

    public int rewrite(int poet, int line, int depth) throws NoSuchElementException {
        needLine(poet, line);
        int was = chronicle.now.depthOf(poet, line);
        if (depth < 0 || depth > DEEPEST || depth == was) {
            return refusedAct();
        }
        chronicle.remember();
        chronicle.now.setDepth(poet, line, depth);
        return was;
    }

    public int pardon(int poet) throws NoSuchElementException {
        needPoet(poet);
        int was = chronicle.now.cells[World.SITS + poet];
        if (was == 0) {
            return refusedAct();
        }
        chronicle.remember();
        chronicle.now.cells[World.SITS + poet] = 0;
        return was;
    }

    public int fill(int person, int purse) throws NoSuchElementException {
        needPerson(person);
        int was = chronicle.now.cells[World.MONEY + person];
        if (purse < 0 || purse > MOST_GIVEN || purse == was) {
            return refusedAct();
        }
        chronicle.remember();
        chronicle.now.cells[World.MONEY + person] = purse;
        return was;
    }

    public int heal(int person) throws NoSuchElementException {
        needPerson(person);
        int was = chronicle.now.cells[World.SCARS + person];
        if (was == 0) {
            return refusedAct();
        }
        chronicle.remember();
        chronicle.now.cells[World.SCARS + person] = 0;
        return was;
    }

    public int undo() {
        if (chronicle.acts == 0) {
            return NONE;
        }
        chronicle.recall();
        return chronicle.acts;
    }

    public int then(int person, int years, int what) throws NoSuchElementException, IllegalArgumentException {
        needPerson(person);
        needWhat(what, 2);
        needWithin(years, 0, SPAN);
        oracle.foresee(years);
        return oracle.trial.ofPerson(person, what, law.poets);
    }

    public int poetThen(int poet, int years, int what) throws NoSuchElementException, IllegalArgumentException {
        needPoet(poet);
        needWhat(what, 5);
        needWithin(years, 0, SPAN);
        oracle.foresee(years);
        switch (what) {
            case 0: return oracle.trial.cells[World.PURSE + poet];
            case 1: return oracle.trial.cells[World.NEXT + poet];
            case 2: return oracle.trial.cells[World.SITS + poet];
            case 3: return oracle.tally.paid[poet];
            case 4: return oracle.tally.earned[poet];
            default: return oracle.tally.read[poet];
        }
    }

    public int hurt(int person, int poet) throws NoSuchElementException {
        needPerson(person);
        needPoet(poet);
        return oracle.firstHit(person, poet);
    }

    public int later(int years, int what) throws NoSuchElementException, IllegalArgumentException {
        needWhat(what, 4);
        needWithin(years, 0, SPAN);
        oracle.foresee(years);
        switch (what) {
            case 0: return oracle.richest();
            case 1: return oracle.poorestPoet();
            case 2: return oracle.trial.sitting(law.poets);
            case 3: return oracle.trial.unscarred(law.people);
            default: return oracle.tally.injured;
        }
    }

    public int worst(int years, int what) throws NoSuchElementException, IllegalArgumentException {
        needWhat(what, 1);
        needWithin(years, 1, SPAN);
        oracle.foresee(years);
        return what == 0 ? oracle.tally.deepest : oracle.tally.quiet;
    }

    public int probe(int poet, int person, int topic, int depth)
            throws NoSuchElementException, IllegalArgumentException {
        needPoet(poet);
        needPerson(person);
        needWithin(topic, 0, law.topics - 1);
        needWithin(depth, 0, DEEPEST);
        return stage.inchesInto(poet, person, topic, depth);
    }

    public int safe(int poet, int topic) throws NoSuchElementException, IllegalArgumentException {
        needPoet(poet);
        needWithin(topic, 0, law.topics - 1);
        return court.safeDepth(poet, topic);
    }

    public int sonnet(int poet, int what) throws NoSuchElementException {
        needPoet(poet);
        needWhat(what, 1);
        int lines = court.sonnetLines(poet);
        return what == 0 ? court.inchesOf(lines) : lines;
    }

    public int action(int poet) throws NoSuchElementException {
        needPoet(poet);
        return court.classAction(poet);
    }

    public int readings(int poet) throws NoSuchElementException {
        if (poet != NONE) {
            needPoet(poet);
        }
        court.assignReadings();
        return poet == NONE ? court.bestSum : court.bestRow[poet];
    }

    public int best(int years, int what) throws NoSuchElementException, IllegalArgumentException {
        needWhat(what, 1);
        needWithin(years, 1, SPAN);
        return what == 0 ? oracle.bestPardon(years) : oracle.bestBurner(years);
    }

    public int feel(int person, int year, boolean hit) throws NoSuchElementException {
        needPerson(person);
        if (chronicle.felt >= MOST_FELT || year < 1 || year > YEARS_AT_ONCE) {
            refused[2]++;
            return NONE;
        }
        chronicle.addFelt(person, year, hit);
        return chronicle.felt;
    }

    public void forget() {
        chronicle.felt = 0;
    }

    public int truths(int what) throws NoSuchElementException {
        needWhat(what, 2);
        int reach = chronicle.lastFelt();
        if (what == 2) {
            return oracle.allFelt(reach) ? 1 : 0;
        }
        oracle.tryTruths(reach);
        return what == 0 ? oracle.found : oracle.firstFound;
    }

    public int listen(int what) throws NoSuchElementException {
        needWhat(what, 1);
        oracle.tryTruths(Math.max(chronicle.lastFelt(), Oracle.LISTENING));
        int who = oracle.mostUnlike();
        if (what == 0) {
            return who;
        }
        return who == NONE ? 0 : oracle.unlikeScars(who);
    }

    public int accidents(int person, int years, int tenths) throws NoSuchElementException, IllegalArgumentException {
        needPerson(person);
        needWithin(years, 1, 5);
        needWithin(tenths, 0, 10);
        return oracle.chanceWhole(person, years, tenths);
    }

    public int game(int poet, int other, int what) throws NoSuchElementException, IllegalArgumentException {
        needPoet(poet);
        needPoet(other);
        needWhat(what, 1);
        if (poet == other) {
            throw new IllegalArgumentException("both are one");
        }
        oracle.playGame(poet, other);
        return what == 0 ? oracle.found : oracle.firstFound;
    }

    public int decades(int seed, int n, int what) throws NoSuchElementException, IllegalArgumentException {
        needWhat(what, 2);
        needWithin(n, 0, SPAN);
        oracle.drawYears(seed, n);
        switch (what) {
            case 0: return oracle.tally.hits;
            case 1: return oracle.trial.total(World.SCARS, law.people);
            default: return oracle.trial.total(World.MONEY, law.people);
        }
    }

    public int jailed(int poet, int years) throws NoSuchElementException, IllegalArgumentException {
        needPoet(poet);
        needWithin(years, 0, SPAN);
        oracle.foresee(years);
        return years - oracle.tally.read[poet];
    }

    public int into(int person, int poet, int years) throws NoSuchElementException, IllegalArgumentException {
        needPerson(person);
        needPoet(poet);
        needWithin(years, 0, SPAN);
        oracle.foresee(years);
        return oracle.tally.inches[poet * MOST_PEOPLE + person];
    }

    public int laureate(int years) throws IllegalArgumentException {
        needWithin(years, 0, SPAN);
        oracle.foresee(years);
        return oracle.leastPaying();
    }

    public int plaintiff(int person) throws NoSuchElementException {
        needPerson(person);
        return court.bestDebtor(person);
    }

    public void image() {
        kept.copyFrom(chronicle);
        isKept = true;
    }

    public boolean restore() {
        if (isKept) {
            chronicle.copyFrom(kept);
        }
        return isKept;
    }

    private void putBytes(int number) {
        for (int shift = 24; shift >= 0 && taped < TAPE; shift -= 8) {
            tape[taped] = (byte) (number >>> shift);
            taped++;
        }
    }

    private int refusedAct() {
        refused[1]++;
        return NONE;
    }

    private void needPerson(int person) {
        if (person < 0 || person >= law.people) {
            throw new NoSuchElementException("no such person");
        }
    }

    private void needPoet(int poet) {
        if (poet < 0 || poet >= law.poets) {
            throw new NoSuchElementException("no such poet");
        }
    }

    private void needLine(int poet, int line) {
        needPoet(poet);
        if (line < 0 || line >= law.lines[poet]) {
            throw new NoSuchElementException("no such line");
        }
    }

    private void needWhat(int what, int most) {
        if (what < 0 || what > most) {
            throw new NoSuchElementException("no such what");
        }
    }

    private void needWithin(int number, int least, int most) {
        if (number < least || number > most) {
            throw new IllegalArgumentException("a number beyond its bounds");
        }
    }

    /** The words of a text; those that are values say in which place they stand, and in which rules. */
    private enum Word {
        TOPICS("topics", NONE, 0),
        PERSON("person", NONE, 0),
        POET("poet", NONE, 0),
        HITS("hits", NONE, 0),
        FINES("fines", NONE, 0),
        BUYS("buys", NONE, 0),
        OR("or", NONE, 0),
        AND("and", NONE, 0),
        NOT("not", NONE, 0),
        SCARS("scars", Rules.SCARS, 7),
        PURSE("purse", Rules.PURSE, 7),
        BEFORE("before", Rules.BEFORE, 7),
        YEAR("year", Rules.YEAR, 7),
        DEPTH("depth", Rules.DEPTH, 1 << Rules.HITS),
        TRUE("true", Rules.TRUE, 1 << Rules.HITS),
        INCHES("inches", Rules.INCHES, 1 << Rules.FINES),
        RHYMES("rhymes", Rules.RHYMES, 1 << Rules.FINES),
        UNKNOWN("", NONE, 0);

        private static final Word[] ALL = values();

        private final String text;
        final int place;
        private final int rules;

        Word(String text, int place, int rules) {
            this.text = text;
            this.place = place;
            this.rules = rules;
        }

        boolean isValueOf(int rule) {
            return (rules >> rule & 1) == 1;
        }

        /** The place in ALL of the word that stands there; the last one where it is none of them. */
        static int spelt(byte[] tape, int from, int to) {
            for (int k = 0; k < ALL.length; k++) {
                if (ALL[k].isSpelt(tape, from, to)) {
                    return k;
                }
            }
            return ALL.length - 1;
        }

        private boolean isSpelt(byte[] tape, int from, int to) {
            if (to - from != text.length()) {
                return false;
            }
            for (int k = 0; k < text.length(); k++) {
                if (from + k >= tape.length || tape[from + k] != text.charAt(k)) {
                    return false;
                }
            }
            return true;
        }
    }

    /** The tape's bytes as a row of tokens, with an end behind the last one. */
    private static final class Tokens {
        static final int END = 0;
        static final int NUMBER = 1;
        static final int WORD = 2;
        static final int SIGN = 3;
        static final int NONSENSE = 4;
        private static final int BEYOND = 10000;
        private static final String SIGNS = ";()+-*/<=";

        private final byte[] tape;
        private final int[] kinds = new int[TAPE + 1];
        private final int[] starts = new int[TAPE + 1];
        private final int[] lengths = new int[TAPE + 1];
        /** A number, a sign's character, a word's place among all words. */
        private final int[] meanings = new int[TAPE + 1];
        private int many = 0;
        private int at = 0;

        Tokens(byte[] tape) {
            this.tape = tape;
        }

        void scan(int bytes) {
            int length = Math.min(bytes, TAPE);
            int end = 0;
            many = 0;
            at = 0;
            for (int k = 0; k < length; k++) {
                if (k >= end && tape[k] != 32 && tape[k] != 10) {
                    end = endOf(k, length);
                    addToken(k, end);
                }
            }
            kinds[many] = END;
            starts[many] = length;
        }

        int kind() {
            return kinds[at];
        }

        int start() {
            return starts[at];
        }

        int length() {
            return lengths[at];
        }

        int number() {
            return meanings[at];
        }

        Word word() {
            return kinds[at] == WORD ? Word.ALL[meanings[at]] : Word.UNKNOWN;
        }

        boolean isSign(char wanted) {
            return kinds[at] == SIGN && meanings[at] == wanted;
        }

        boolean isWord(Word wanted) {
            return kinds[at] == WORD && Word.ALL[meanings[at]] == wanted;
        }

        void advance() {
            if (at < many) {
                at++;
            }
        }

        /** Nothing more is told: every loop over tokens ends. */
        void stop() {
            at = many;
        }

        private int endOf(int start, int length) {
            int end = start + 1;
            if (isLetter(tape[start])) {
                while (end < length && isLetter(tape[end])) {
                    end++;
                }
            } else if (isDigit(tape[start])) {
                while (end < length && isDigit(tape[end])) {
                    end++;
                }
            }
            return end;
        }

        private void addToken(int start, int end) {
            if (many >= TAPE) {
                return;
            }
            starts[many] = start;
            lengths[many] = end - start;
            if (isLetter(tape[start])) {
                kinds[many] = WORD;
                meanings[many] = Word.spelt(tape, start, end);
            } else if (isDigit(tape[start])) {
                kinds[many] = NUMBER;
                meanings[many] = valueOf(start, end);
            } else {
                char sign = tape[start] > 0 ? (char) tape[start] : ' ';
                kinds[many] = SIGNS.indexOf(sign) >= 0 ? SIGN : NONSENSE;
                meanings[many] = sign;
            }
            many++;
        }

        private int valueOf(int start, int end) {
            int value = 0;
            for (int k = start; k < end; k++) {
                value = Math.min(value * 10 + tape[k] - '0', BEYOND);
            }
            return value;
        }

        private static boolean isLetter(byte b) {
            return b >= 'a' && b <= 'z';
        }

        private static boolean isDigit(byte b) {
            return b >= '0' && b <= '9';
        }
    }

    /** Reads a text into a law and a first world of its own, so that a faulty one changes nothing. */
    private static final class Parser {
        private static final int MISPLACED = 1;
        private static final int TOO_MUCH = 2;
        private static final int UNKNOWN = 3;
        private static final int TWICE = 5;
        private static final int MOST_DIGITS = 4;
        private static final int MOST_NOTS = 6;
        private static final int MOST_AROUND = 5;
        private static final int GREATEST = 9999;

        private static final int ORS = 0;
        private static final int ANDS = 1;
        private static final int NOTS = 2;
        private static final int TESTS = 3;
        private static final int SUMS = 4;
        private static final int PRODUCTS = 5;

        final Law law = new Law();
        final World world = new World();
        int faultAt = NONE;
        private int found = 0;
        private int rule = 0;
        private final Tokens tokens;

        Parser(byte[] tape) {
            tokens = new Tokens(tape);
        }

        int parse(int bytes) {
            found = 0;
            faultAt = NONE;
            law.clear();
            world.clear();
            tokens.scan(bytes);
            if (tokens.isWord(Word.TOPICS)) {
                tokens.advance();
                law.topics = takeNumber(2, MOST_TOPICS);
                takeSign(';');
            }
            for (int k = 0; k < TAPE && tokens.kind() != Tokens.END; k++) {
                Word word = tokens.word();
                if (word == Word.PERSON) {
                    takePerson();
                } else if (word == Word.POET) {
                    takePoet();
                } else if (word == Word.HITS) {
                    takeRule(Rules.HITS);
                } else if (word == Word.FINES) {
                    takeRule(Rules.FINES);
                } else if (word == Word.BUYS) {
                    takeRule(Rules.BUYS);
                } else {
                    refuse(MISPLACED);
                }
            }
            return found;
        }

        private void refuse(int number) {
            if (found == 0) {
                found = number;
                faultAt = tokens.start();
            }
            tokens.stop();
        }

        private void takePerson() {
            if (law.people >= MOST_PEOPLE) {
                refuse(TOO_MUCH);
                return;
            }
            int person = law.people;
            law.people++;
            tokens.advance();
            world.cells[World.MONEY + person] = takeNumber(0, MOST_GIVEN);
            for (int topic = 0; topic < law.topics; topic++) {
                law.suppose(person, topic, takeNumber(0, DEEPEST));
            }
            takeSign(';');
        }

        private void takePoet() {
            if (law.poets >= MOST_POETS) {
                refuse(TOO_MUCH);
                return;
            }
            int poet = law.poets;
            law.poets++;
            tokens.advance();
            world.cells[World.PURSE + poet] = takeNumber(0, MOST_GIVEN);
            takeLine(poet);
            for (int k = 0; k < MOST_LINES && tokens.kind() == Tokens.NUMBER; k++) {
                takeLine(poet);
            }
            takeSign(';');
        }

        private void takeLine(int poet) {
            int line = law.lines[poet];
            if (tokens.kind() == Tokens.NUMBER && line >= MOST_LINES) {
                refuse(TOO_MUCH);
                return;
            }
            law.addLine(poet, takeTopic());
            world.setDepth(poet, line, takeNumber(0, DEEPEST));
        }

        private int takeTopic() {
            boolean isNumber = tokens.kind() == Tokens.NUMBER && tokens.length() <= MOST_DIGITS;
            // one of more digits is too much as well as unknown, and the lesser fault counts
            if (isNumber && tokens.number() >= law.topics) {
                refuse(UNKNOWN);
                return 0;
            }
            return takeNumber(0, law.topics - 1);
        }

        private int takeNumber(int least, int most) {
            if (tokens.kind() != Tokens.NUMBER) {
                refuse(MISPLACED);
                return least;
            }
            int number = tokens.number();
            if (tokens.length() > MOST_DIGITS || number < least || number > most) {
                refuse(TOO_MUCH);
                return least;
            }
            tokens.advance();
            return number;
        }

        private void takeSign(char sign) {
            if (tokens.isSign(sign)) {
                tokens.advance();
            } else {
                refuse(MISPLACED);
            }
        }

        private void takeRule(int number) {
            if (law.rules.has(number)) {
                refuse(TWICE);
                return;
            }
            rule = number;
            tokens.advance();
            law.rules.begin(rule);
            takeLevel(ORS, 0);
            law.rules.end(rule);
            takeSign(';');
        }

        /** What is told by the operators of a level and of those behind it, in an expression within so many others. */
        private void takeLevel(int level, int around) {
            if (level > PRODUCTS) {
                takePart(around);
                return;
            }
            int nots = level == NOTS ? takeNots() : 0;
            takeLevel(level + 1, around);
            int most = level == TESTS ? 1 : TAPE;
            for (int k = 0; k < most && operatorOf(level) != NONE; k++) {
                int operator = operatorOf(level);
                tokens.advance();
                takeLevel(level + 1, around);
                law.rules.emit(operator);
            }
            for (int k = 0; k < nots; k++) {
                law.rules.emit(Rules.NOT);
            }
        }

        /** The operator of this level that stands here; NONE, which is no operator, without. */
        private int operatorOf(int level) {
            switch (level) {
                case ORS: return tokens.isWord(Word.OR) ? Rules.OR : NONE;
                case ANDS: return tokens.isWord(Word.AND) ? Rules.AND : NONE;
                case TESTS: return oneOf('<', Rules.LESS, '=', Rules.EQUAL);
                case SUMS: return oneOf('+', Rules.PLUS, '-', Rules.MINUS);
                case PRODUCTS: return oneOf('*', Rules.TIMES, '/', Rules.OVER);
                default: return NONE;
            }
        }

        private int oneOf(char sign, int operator, char otherSign, int otherOperator) {
            if (tokens.isSign(sign)) {
                return operator;
            }
            return tokens.isSign(otherSign) ? otherOperator : NONE;
        }

        private int takeNots() {
            int nots = 0;
            for (int k = 0; k < MOST_NOTS && tokens.isWord(Word.NOT); k++) {
                nots++;
                tokens.advance();
            }
            if (tokens.isWord(Word.NOT)) {
                refuse(TOO_MUCH);
            }
            return nots;
        }

        private void takePart(int around) {
            if (tokens.kind() == Tokens.NUMBER) {
                law.rules.emit(takeNumber(0, GREATEST));
            } else if (tokens.kind() == Tokens.WORD) {
                takeValue();
            } else if (!tokens.isSign('(')) {
                refuse(MISPLACED);
            } else {
                tokens.advance();
                if (around < MOST_AROUND) {
                    takeLevel(ORS, around + 1);
                } else {
                    refuse(couldBePart() ? TOO_MUCH : MISPLACED);
                }
                takeSign(')');
            }
        }

        private boolean couldBePart() {
            return tokens.kind() == Tokens.NUMBER || tokens.kind() == Tokens.WORD || tokens.isSign('(');
        }

        private void takeValue() {
            Word word = tokens.word();
            if (word.isValueOf(rule)) {
                law.rules.emit(Rules.FIRST_VALUE - word.place);
                tokens.advance();
            } else {
                refuse(UNKNOWN);
            }
        }
    }

    /** The three rules, as steps of a machine with a stack: numbers, values, operators. */
    private static final class Rules {
        static final int HITS = 0;
        static final int FINES = 1;
        static final int BUYS = 2;

        static final int SCARS = 0;
        static final int PURSE = 1;
        static final int BEFORE = 2;
        static final int YEAR = 3;
        static final int DEPTH = 4;
        static final int TRUE = 5;
        static final int INCHES = 6;
        static final int RHYMES = 7;
        static final int VALUES = 8;

        static final int FIRST_VALUE = -1;
        static final int NOT = FIRST_VALUE - VALUES;
        static final int OR = NOT - 1;
        static final int AND = NOT - 2;
        static final int LESS = NOT - 3;
        static final int EQUAL = NOT - 4;
        static final int PLUS = NOT - 5;
        static final int MINUS = NOT - 6;
        static final int TIMES = NOT - 7;
        static final int OVER = NOT - 8;

        /** Six expressions within one another hold five operands each at most. */
        private static final int STACK = 64;

        private final int[] code = new int[TAPE];
        private int written = 0;
        private final int[] from = new int[3];
        private final int[] to = new int[3];
        private final int[] stack = new int[STACK];

        void clear() {
            written = 0;
            for (int rule = 0; rule < 3; rule++) {
                from[rule] = 0;
                to[rule] = 0;
            }
        }

        void copyFrom(Rules other) {
            written = other.written;
            System.arraycopy(other.code, 0, code, 0, written);
            for (int rule = 0; rule < 3; rule++) {
                from[rule] = other.from[rule];
                to[rule] = other.to[rule];
            }
        }

        boolean has(int rule) {
            return to[rule] > from[rule];
        }

        boolean mentions(int rule, int value) {
            for (int k = from[rule]; k < to[rule]; k++) {
                if (code[k] == FIRST_VALUE - value) {
                    return true;
                }
            }
            return false;
        }

        void begin(int rule) {
            from[rule] = written;
        }

        void emit(int step) {
            if (written < TAPE) {
                code[written] = step;
                written++;
            }
        }

        void end(int rule) {
            to[rule] = written;
        }

        int worth(int rule, int[] values) {
            int top = 0;
            for (int k = from[rule]; k < to[rule]; k++) {
                int step = code[k];
                if (step > NOT) {
                    if (top < STACK) {
                        stack[top] = step >= 0 ? step : values[FIRST_VALUE - step];
                        top++;
                    }
                } else if (step == NOT) {
                    if (top > 0) {
                        stack[top - 1] = stack[top - 1] == 0 ? 1 : 0;
                    }
                } else if (top > 1) {
                    top--;
                    stack[top - 1] = combined(step, stack[top - 1], stack[top]);
                }
            }
            return top > 0 ? stack[top - 1] : 0;
        }

        private static int combined(int operator, int a, int b) {
            switch (operator) {
                case OR: return a != 0 || b != 0 ? 1 : 0;
                case AND: return a != 0 && b != 0 ? 1 : 0;
                case LESS: return a < b ? 1 : 0;
                case EQUAL: return a == b ? 1 : 0;
                case PLUS: return a + b;
                case MINUS: return a - b;
                case TIMES: return a * b;
                default: return b == 0 ? 0 : a / b;
            }
        }
    }

    /** What a text tells and no act changes. */
    private static final class Law {
        private static final int TOPICS_WITHOUT = 3;

        int topics = TOPICS_WITHOUT;
        int people = 0;
        int poets = 0;
        final int[] lines = new int[MOST_POETS];
        private final int[] truth = new int[MOST_PEOPLE * MOST_TOPICS];
        private final int[] topic = new int[MOST_POETS * MOST_LINES];
        final Rules rules = new Rules();

        void clear() {
            topics = TOPICS_WITHOUT;
            people = 0;
            poets = 0;
            for (int poet = 0; poet < MOST_POETS; poet++) {
                lines[poet] = 0;
            }
            rules.clear();
        }

        void copyFrom(Law other) {
            topics = other.topics;
            people = other.people;
            poets = other.poets;
            System.arraycopy(other.lines, 0, lines, 0, lines.length);
            System.arraycopy(other.truth, 0, truth, 0, truth.length);
            System.arraycopy(other.topic, 0, topic, 0, topic.length);
            rules.copyFrom(other.rules);
        }

        void addLine(int poet, int ofTopic) {
            if (lines[poet] < MOST_LINES) {
                topic[poet * MOST_LINES + lines[poet]] = ofTopic;
                lines[poet]++;
            }
        }

        int truthOf(int person, int ofTopic) {
            return truth[person * MOST_TOPICS + ofTopic];
        }

        void suppose(int person, int ofTopic, int number) {
            truth[person * MOST_TOPICS + ofTopic] = number;
        }

        int topicOf(int poet, int line) {
            return topic[poet * MOST_LINES + line];
        }

        int behind(int poet, int line) {
            return line + 1 < lines[poet] ? line + 1 : 0;
        }

        int rhymes(int poet, int line) {
            int ahead = line > 0 ? line - 1 : Math.max(lines[poet] - 1, 0);
            return topicOf(poet, line) == topicOf(poet, ahead) ? 1 : 0;
        }

        /** Whether it can make a difference what is true of this topic. */
        boolean matters(int ofTopic) {
            if (rules.has(Rules.HITS) && !rules.mentions(Rules.HITS, Rules.TRUE)) {
                return false;
            }
            for (int poet = 0; poet < poets; poet++) {
                for (int line = 0; line < lines[poet]; line++) {
                    if (topicOf(poet, line) == ofTopic) {
                        return true;
                    }
                }
            }
            return false;
        }
    }

    /** What acts change, in one row, so that it can be kept and brought back at once. */
    private static final class World {
        static final int YEAR = 0;
        static final int MONEY = YEAR + 1;
        static final int SCARS = MONEY + MOST_PEOPLE;
        static final int BEFORE = SCARS + MOST_PEOPLE;
        static final int PURSE = BEFORE + MOST_POETS * MOST_PEOPLE;
        static final int NEXT = PURSE + MOST_POETS;
        static final int SITS = NEXT + MOST_POETS;
        static final int DEPTH = SITS + MOST_POETS;
        static final int SIZE = DEPTH + MOST_POETS * MOST_LINES;

        final int[] cells = new int[SIZE];

        void clear() {
            for (int k = 0; k < SIZE; k++) {
                cells[k] = 0;
            }
        }

        void copyFrom(World other) {
            System.arraycopy(other.cells, 0, cells, 0, SIZE);
        }

        int depthOf(int poet, int line) {
            return cells[DEPTH + poet * MOST_LINES + line];
        }

        void setDepth(int poet, int line, int depth) {
            if (line < MOST_LINES) {
                cells[DEPTH + poet * MOST_LINES + line] = depth;
            }
        }

        int hitsBy(int poet, int person) {
            return cells[BEFORE + poet * MOST_PEOPLE + person];
        }

        /** Of a person: the purse, scars, hits by all poets. */
        int ofPerson(int person, int what, int poets) {
            if (what == 0) {
                return cells[MONEY + person];
            }
            if (what == 1) {
                return cells[SCARS + person];
            }
            int hits = 0;
            for (int poet = 0; poet < poets; poet++) {
                hits += hitsBy(poet, person);
            }
            return hits;
        }

        int total(int first, int many) {
            int sum = 0;
            for (int k = 0; k < many; k++) {
                sum += cells[first + k];
            }
            return sum;
        }

        int unscarred(int people) {
            int bits = 0;
            for (int person = 0; person < people; person++) {
                bits |= cells[SCARS + person] == 0 ? 1 << person : 0;
            }
            return bits;
        }

        int sitting(int poets) {
            int bits = 0;
            for (int poet = 0; poet < poets; poet++) {
                bits |= cells[SITS + poet] > 0 ? 1 << poet : 0;
            }
            return bits;
        }
    }

    /** What happens in the years that a stage lets go by. */
    private static final class Tally {
        final int[] paid = new int[MOST_POETS];
        final int[] earned = new int[MOST_POETS];
        final int[] read = new int[MOST_POETS];
        final int[] inches = new int[MOST_POETS * MOST_PEOPLE];
        int allInches = 0;
        int hits = 0;
        int hitThisYear = 0;
        int injured = 0;
        int deepest = 0;
        int quiet = 0;

        void clear() {
            for (int poet = 0; poet < MOST_POETS; poet++) {
                paid[poet] = 0;
                earned[poet] = 0;
                read[poet] = 0;
            }
            for (int k = 0; k < inches.length; k++) {
                inches[k] = 0;
            }
            allInches = 0;
            hits = 0;
            hitThisYear = 0;
            injured = 0;
            deepest = 0;
            quiet = 0;
        }

        void addHit(int poet, int person, int depth) {
            inches[poet * MOST_PEOPLE + person] += depth;
            allInches += depth;
            hits++;
            hitThisYear |= 1 << person;
            deepest = Math.max(deepest, depth);
        }

        void closeYear() {
            injured |= hitThisYear;
            quiet += hitThisYear == 0 ? 1 : 0;
        }
    }

    /** A world on which poets read by a law. */
    private static final class Stage {
        final World world;
        final Tally tally = new Tally();
        private final Law law;
        private final int[] values = new int[Rules.VALUES];

        Stage(Law law, World world) {
            this.law = law;
            this.world = world;
        }

        int inchesInto(int poet, int person, int topic, int depth) {
            int truth = law.truthOf(person, topic);
            if (!law.rules.has(Rules.HITS)) {
                return Math.min(depth, truth);
            }
            setValues(poet, person, world.cells[World.PURSE + poet]);
            values[Rules.DEPTH] = depth;
            values[Rules.TRUE] = truth;
            return within(law.rules.worth(Rules.HITS, values), MOST_INCHES);
        }

        int fineFor(int poet, int person, int line, int inches) {
            if (!law.rules.has(Rules.FINES)) {
                return inches;
            }
            setValues(poet, person, world.cells[World.PURSE + poet]);
            values[Rules.INCHES] = inches;
            values[Rules.RHYMES] = law.rhymes(poet, line);
            return within(law.rules.worth(Rules.FINES, values), MOST_FINE);
        }

        void passYear(boolean accident) {
            tally.hitThisYear = 0;
            for (int poet = 0; poet < law.poets; poet++) {
                if (world.cells[World.SITS + poet] > 0) {
                    world.cells[World.SITS + poet]--;
                } else {
                    sellVolumes(poet);
                    readNext(poet, accident);
                }
            }
            world.cells[World.YEAR]++;
            tally.closeYear();
        }

        void turnPage(int poet) {
            world.cells[World.NEXT + poet] = law.behind(poet, world.cells[World.NEXT + poet]);
        }

        private void sellVolumes(int poet) {
            int[] cells = world.cells;
            for (int person = 0; person < law.people; person++) {
                if (cells[World.MONEY + person] > 0 && wouldBuy(poet, person)) {
                    cells[World.MONEY + person]--;
                    // a penny that is lost is not earned
                    if (cells[World.PURSE + poet] < MOST_HELD) {
                        cells[World.PURSE + poet]++;
                        tally.earned[poet]++;
                    }
                }
            }
        }

        private boolean wouldBuy(int poet, int person) {
            if (!law.rules.has(Rules.BUYS)) {
                return true;
            }
            setValues(poet, person, world.cells[World.MONEY + person]);
            return law.rules.worth(Rules.BUYS, values) > 0;
        }

        private void readNext(int poet, boolean accident) {
            int line = world.cells[World.NEXT + poet];
            int topic = law.topicOf(poet, line);
            int depth = accident ? DEEPEST : world.depthOf(poet, line);
            int lacked = 0;
            for (int person = 0; person < law.people; person++) {
                int inches = inchesInto(poet, person, topic, depth);
                if (inches > 0) {
                    int fine = fineFor(poet, person, line, inches);
                    lacked = Math.max(lacked, fine - payFine(poet, person, fine));
                    leaveScars(poet, person, inches);
                }
            }
            world.cells[World.SITS + poet] = Math.min(lacked, MOST_SITTING);
            tally.read[poet]++;
            turnPage(poet);
        }

        private int payFine(int poet, int person, int fine) {
            int[] cells = world.cells;
            int paid = Math.min(fine, cells[World.PURSE + poet]);
            cells[World.PURSE + poet] -= paid;
            cells[World.MONEY + person] = Math.min(cells[World.MONEY + person] + paid, MOST_HELD);
            tally.paid[poet] += paid;
            return paid;
        }

        private void leaveScars(int poet, int person, int inches) {
            int[] cells = world.cells;
            cells[World.SCARS + person] = Math.min(cells[World.SCARS + person] + inches, MOST_SCARS);
            cells[World.BEFORE + poet * MOST_PEOPLE + person]++;
            tally.addHit(poet, person, inches);
        }

        private void setValues(int poet, int person, int purse) {
            values[Rules.SCARS] = world.cells[World.SCARS + person];
            values[Rules.PURSE] = purse;
            values[Rules.BEFORE] = world.hitsBy(poet, person);
            values[Rules.YEAR] = world.cells[World.YEAR];
        }

        private static int within(int number, int most) {
            if (number < 0) {
                return 0;
            }
            return number > most ? most : number;
        }
    }

    /** The world now, the worlds ahead of the acts that are kept, and what is felt. */
    private static final class Chronicle {
        final World now = new World();
        int acts = 0;
        private final int[] ahead = new int[MOST_ACTS * World.SIZE];
        private int oldest = 0;
        int felt = 0;
        final int[] feltBy = new int[MOST_FELT];
        final int[] feltIn = new int[MOST_FELT];
        /** 1 if hit, 0 if not. */
        final int[] feltHit = new int[MOST_FELT];

        void beginWith(World world) {
            now.copyFrom(world);
            acts = 0;
            oldest = 0;
            felt = 0;
        }

        void copyFrom(Chronicle other) {
            now.copyFrom(other.now);
            acts = other.acts;
            oldest = other.oldest;
            System.arraycopy(other.ahead, 0, ahead, 0, ahead.length);
            felt = other.felt;
            System.arraycopy(other.feltBy, 0, feltBy, 0, MOST_FELT);
            System.arraycopy(other.feltIn, 0, feltIn, 0, MOST_FELT);
            System.arraycopy(other.feltHit, 0, feltHit, 0, MOST_FELT);
        }

        /** Keeps the world as it is ahead of an act; the oldest one goes if there are too many. */
        void remember() {
            int place = (oldest + acts) % MOST_ACTS;
            System.arraycopy(now.cells, 0, ahead, place * World.SIZE, World.SIZE);
            if (acts < MOST_ACTS) {
                acts++;
            } else {
                oldest = (oldest + 1) % MOST_ACTS;
            }
        }

        void recall() {
            if (acts > 0) {
                acts--;
                int place = (oldest + acts) % MOST_ACTS;
                System.arraycopy(ahead, place * World.SIZE, now.cells, 0, World.SIZE);
            }
        }

        void addFelt(int person, int year, boolean hit) {
            if (felt < MOST_FELT) {
                feltBy[felt] = person;
                feltIn[felt] = year;
                feltHit[felt] = hit ? 1 : 0;
                felt++;
            }
        }

        int lastFelt() {
            int last = 0;
            for (int k = 0; k < felt; k++) {
                last = Math.max(last, feltIn[k]);
            }
            return last;
        }

        /** Whether what is felt of this year is so, if these people (bits) are hit in it. */
        boolean agrees(int year, int hit) {
            for (int k = 0; k < felt; k++) {
                if (feltIn[k] == year && feltHit[k] != (hit >> feltBy[k] & 1)) {
                    return false;
                }
            }
            return true;
        }
    }

    /** What can be asked of the world as it is now. */
    private static final class Court {
        private final Law law;
        private final Stage stage;
        private final int[] lineFine = new int[MOST_LINES];
        private final int[] lineInches = new int[MOST_LINES];
        private final int[] due = new int[MOST_PEOPLE];
        private final int[] reach = new int[MOST_POETS * MOST_PEOPLE];
        private final int[] row = new int[MOST_POETS];
        final int[] bestRow = new int[MOST_POETS];
        int bestSum = 0;

        Court(Law law, Stage stage) {
            this.law = law;
            this.stage = stage;
        }

        int nextHits(int poet) {
            int line = stage.world.cells[World.NEXT + poet];
            int bits = 0;
            for (int person = 0; person < law.people; person++) {
                bits |= inchesNow(poet, person, line) > 0 ? 1 << person : 0;
            }
            return bits;
        }

        int inchesOfLine(int poet, int line) {
            int sum = 0;
            for (int person = 0; person < law.people; person++) {
                sum += inchesNow(poet, person, line);
            }
            return sum;
        }

        int fineOfLine(int poet, int line) {
            int sum = 0;
            for (int person = 0; person < law.people; person++) {
                sum += fineNow(poet, person, line);
            }
            return sum;
        }

        int safeDepth(int poet, int topic) {
            for (int depth = 0; depth <= DEEPEST; depth++) {
                for (int person = 0; person < law.people; person++) {
                    if (stage.inchesInto(poet, person, topic, depth) > 0) {
                        return depth > 0 ? depth - 1 : NONE;
                    }
                }
            }
            return DEEPEST;
        }

        int sonnetLines(int poet) {
            int lines = law.lines[poet];
            for (int line = 0; line < lines; line++) {
                lineFine[line] = fineOfLine(poet, line);
                lineInches[line] = inchesOfLine(poet, line);
            }
            int purse = stage.world.cells[World.PURSE + poet];
            int chosen = 0;
            for (int bits = 1; bits < 1 << lines; bits++) {
                if (sumOf(lineFine, bits) <= purse && inchesOf(bits) > inchesOf(chosen)) {
                    chosen = bits;
                }
            }
            return chosen;
        }

        /** Of the lines of the poet whose sonnet was asked for last. */
        int inchesOf(int lines) {
            return sumOf(lineInches, lines);
        }

        int classAction(int poet) {
            for (int person = 0; person < law.people; person++) {
                due[person] = dueFrom(poet, person);
            }
            int purse = stage.world.cells[World.PURSE + poet];
            int chosen = NONE;
            int fewest = MOST_PEOPLE + 1;
            for (int bits = 1; bits < 1 << law.people; bits++) {
                if (Integer.bitCount(bits) < fewest && sumOf(due, bits) > purse) {
                    chosen = bits;
                    fewest = Integer.bitCount(bits);
                }
            }
            return chosen;
        }

        int bestDebtor(int person) {
            int chosen = NONE;
            int most = 0;
            for (int poet = 0; poet < law.poets; poet++) {
                int sum = dueFrom(poet, person);
                if (sum > most) {
                    chosen = poet;
                    most = sum;
                }
            }
            return chosen;
        }

        void assignReadings() {
            int readers = 0;
            for (int poet = 0; poet < law.poets; poet++) {
                row[poet] = NONE;
                bestRow[poet] = NONE;
                readers += sits(poet) ? 0 : 1;
                for (int person = 0; person < law.people; person++) {
                    int line = stage.world.cells[World.NEXT + poet];
                    reach[poet * MOST_PEOPLE + person] = inchesNow(poet, person, line);
                }
            }
            bestSum = NONE;
            assignFrom(0, 0, Math.max(readers - law.people, 0), 0);
        }

        /** Tries all rows of this poet and those behind, the first ones first; so many must read to nobody. */
        private void assignFrom(int poet, int taken, int idle, int sum) {
            if (poet >= law.poets) {
                keepRow(sum);
                return;
            }
            if (sits(poet)) {
                assignFrom(poet + 1, taken, idle, sum);
                return;
            }
            for (int person = 0; person < law.people; person++) {
                if ((taken >> person & 1) == 0) {
                    row[poet] = person;
                    assignFrom(poet + 1, taken | 1 << person, idle, sum + reach[poet * MOST_PEOPLE + person]);
                }
            }
            row[poet] = NONE;
            if (idle > 0) {
                assignFrom(poet + 1, taken, idle - 1, sum);
            }
        }

        private void keepRow(int sum) {
            if (sum > bestSum) {
                bestSum = sum;
                System.arraycopy(row, 0, bestRow, 0, MOST_POETS);
            }
        }

        private boolean sits(int poet) {
            return stage.world.cells[World.SITS + poet] > 0;
        }

        private int inchesNow(int poet, int person, int line) {
            return stage.inchesInto(poet, person, law.topicOf(poet, line), stage.world.depthOf(poet, line));
        }

        private int fineNow(int poet, int person, int line) {
            int inches = inchesNow(poet, person, line);
            return inches > 0 ? stage.fineFor(poet, person, line, inches) : 0;
        }

        private int dueFrom(int poet, int person) {
            int sum = 0;
            for (int line = 0; line < law.lines[poet]; line++) {
                sum += fineNow(poet, person, line);
            }
            return sum;
        }

        private static int sumOf(int[] parts, int bits) {
            int sum = 0;
            for (int k = 0; k < parts.length; k++) {
                sum += (bits >> k & 1) == 1 ? parts[k] : 0;
            }
            return sum;
        }
    }

    /** What can be asked of years to come: they go by on a world of its own. */
    private static final class Oracle {
        static final int LISTENING = 5;
        private static final int GAME_YEARS = 4;
        private static final int SITTING_COSTS = 3;

        final World trial = new World();
        final Tally tally;
        /** Of truths, or of couples that rest: how many, and the first. */
        int found = 0;
        int firstFound = NONE;
        private final Law law;
        private final Chronicle chronicle;
        private final Stage stage;
        private final int[] scarsHeard = new int[MOST_PEOPLE];
        /** Of each person two rows of bits: which numbers of scars there are by some truth. */
        private final long[] scarsSeen = new long[MOST_PEOPLE * 2];
        private final int[] gain = new int[4];
        private final int[] otherGain = new int[4];
        private int seed = 0;

        Oracle(Law law, Chronicle chronicle) {
            this.law = law;
            this.chronicle = chronicle;
            stage = new Stage(law, trial);
            tally = stage.tally;
        }

        void foresee(int years) {
            begin();
            letGoBy(years);
        }

        int firstHit(int person, int poet) {
            begin();
            int hits = trial.hitsBy(poet, person);
            for (int year = 1; year <= SPAN; year++) {
                stage.passYear(false);
                if (trial.hitsBy(poet, person) > hits) {
                    return year;
                }
            }
            return NONE;
        }

        int richest() {
            int chosen = NONE;
            for (int person = 0; person < law.people; person++) {
                if (chosen == NONE || trial.cells[World.MONEY + person] > trial.cells[World.MONEY + chosen]) {
                    chosen = person;
                }
            }
            return chosen;
        }

        int poorestPoet() {
            int chosen = NONE;
            for (int poet = 0; poet < law.poets; poet++) {
                if (chosen == NONE || trial.cells[World.PURSE + poet] < trial.cells[World.PURSE + chosen]) {
                    chosen = poet;
                }
            }
            return chosen;
        }

        int leastPaying() {
            int chosen = NONE;
            for (int poet = 0; poet < law.poets; poet++) {
                if (chosen == NONE || tally.paid[poet] < tally.paid[chosen]) {
                    chosen = poet;
                }
            }
            return chosen;
        }

        int bestPardon(int years) {
            begin();
            letGoBy(years);
            int most = trial.total(World.MONEY, law.people);
            int chosen = NONE;
            for (int poet = 0; poet < law.poets; poet++) {
                if (chronicle.now.cells[World.SITS + poet] > 0) {
                    begin();
                    trial.cells[World.SITS + poet] = 0;
                    letGoBy(years);
                    int sum = trial.total(World.MONEY, law.people);
                    if (sum > most) {
                        most = sum;
                        chosen = poet;
                    }
                }
            }
            return chosen;
        }

        int bestBurner(int years) {
            begin();
            letGoBy(years);
            int fewest = tally.allInches;
            int chosen = NONE;
            for (int poet = 0; poet < law.poets; poet++) {
                if (law.lines[poet] > 1) {
                    begin();
                    stage.turnPage(poet);
                    letGoBy(years);
                    if (tally.allInches < fewest) {
                        fewest = tally.allInches;
                        chosen = poet;
                    }
                }
            }
            return chosen;
        }

        /** Whether all that is felt would be so, looking so many years ahead. */
        boolean allFelt(int years) {
            begin();
            for (int year = 1; year <= years; year++) {
                stage.passYear(false);
                if (!chronicle.agrees(year, tally.hitThisYear)) {
                    return false;
                }
                if (year == LISTENING) {
                    System.arraycopy(trial.cells, World.SCARS, scarsHeard, 0, MOST_PEOPLE);
                }
            }
            return true;
        }

        /** Supposes every other number in place of each truth, looking so many years ahead. */
        void tryTruths(int years) {
            found = 0;
            firstFound = NONE;
            for (int k = 0; k < scarsSeen.length; k++) {
                scarsSeen[k] = 0;
            }
            for (int person = 0; person < law.people; person++) {
                for (int topic = 0; topic < law.topics; topic++) {
                    int truth = law.truthOf(person, topic);
                    // where the number makes no difference, the first one answers for all
                    boolean ask = true;
                    boolean holds = false;
                    for (int number = 0; number <= DEEPEST; number++) {
                        if (number == truth) {
                            continue;
                        }
                        if (ask) {
                            law.suppose(person, topic, number);
                            holds = allFelt(years);
                            ask = law.matters(topic);
                        }
                        if (holds) {
                            addFound(person * 100 + topic * 10 + number);
                            seeScars();
                        }
                    }
                    law.suppose(person, topic, truth);
                }
            }
        }

        private void addFound(int what) {
            if (found == 0) {
                firstFound = what;
            }
            found++;
        }

        private void seeScars() {
            for (int person = 0; person < law.people; person++) {
                int scars = scarsHeard[person];
                scarsSeen[person * 2 + (scars >= 64 ? 1 : 0)] |= 1L << (scars & 63);
            }
        }

        int unlikeScars(int person) {
            return Long.bitCount(scarsSeen[person * 2]) + Long.bitCount(scarsSeen[person * 2 + 1]);
        }

        int mostUnlike() {
            int chosen = NONE;
            int most = 0;
            for (int person = 0; person < law.people; person++) {
                int unlike = unlikeScars(person);
                if (unlike > most) {
                    chosen = person;
                    most = unlike;
                }
            }
            return chosen;
        }

        int chanceWhole(int person, int years, int tenths) {
            int chance = 0;
            for (int bits = 0; bits < 1 << years; bits++) {
                int weight = 1;
                for (int year = 0; year < years; year++) {
                    weight *= (bits >> year & 1) == 1 ? tenths : 10 - tenths;
                }
                if (weight > 0 && staysWhole(person, years, bits)) {
                    chance += weight;
                }
            }
            return chance;
        }

        private boolean staysWhole(int person, int years, int accidents) {
            begin();
            for (int year = 0; year < years; year++) {
                stage.passYear((accidents >> year & 1) == 1);
            }
            return trial.cells[World.SCARS + person] == 0;
        }

        void playGame(int poet, int other) {
            for (int couple = 0; couple < 4; couple++) {
                begin();
                if (couple >= 2) {
                    stage.turnPage(poet);
                }
                if (couple % 2 == 1) {
                    stage.turnPage(other);
                }
                letGoBy(GAME_YEARS);
                gain[couple] = gainOf(poet);
                otherGain[couple] = gainOf(other);
            }
            found = 0;
            firstFound = NONE;
            for (int couple = 0; couple < 4; couple++) {
                // the first one's choice is the higher bit
                if (gain[couple] >= gain[couple ^ 2] && otherGain[couple] >= otherGain[couple ^ 1]) {
                    addFound(couple / 2 * 10 + couple % 2);
                }
            }
        }

        private int gainOf(int poet) {
            return trial.cells[World.PURSE + poet] - SITTING_COSTS * trial.cells[World.SITS + poet];
        }

        void drawYears(int firstSeed, int years) {
            begin();
            seed = firstSeed;
            for (int year = 0; year < years; year++) {
                drawEvent();
                stage.passYear(false);
            }
        }

        private void drawEvent() {
            int event = draw(6);
            if (event == 0 && law.poets > 0) {
                trial.cells[World.SITS + draw(law.poets)] = 0;
            } else if (event == 1 && law.people > 0) {
                trial.cells[World.SCARS + draw(law.people)] = 0;
            } else if (event == 2 && law.poets > 0) {
                int poet = draw(law.poets);
                trial.setDepth(poet, trial.cells[World.NEXT + poet], draw(10));
            }
        }

        private int draw(int many) {
            seed = seed * 1103515245 + 12345;
            int bits = seed >>> 16 & 0x7fff;
            return many > 0 ? bits % many : 0;
        }

        private void begin() {
            trial.copyFrom(chronicle.now);
            tally.clear();
        }

        private void letGoBy(int years) {
            for (int year = 0; year < years; year++) {
                stage.passYear(false);
            }
        }
    }
}

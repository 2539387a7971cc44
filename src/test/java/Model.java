import java.util.ArrayDeque;
import java.util.ArrayList;
import java.util.Deque;
import java.util.HashMap;
import java.util.HashSet;
import java.util.List;
import java.util.Map;
import java.util.NoSuchElementException;
import java.util.Set;

/** The document once more, written plainly with the whole Java library, to compare the program with. */
final class Model {
    interface Expr {
        int at(Map<String, Integer> values);
    }

    static final class Fault extends RuntimeException {
        private static final long serialVersionUID = 1L;
        final int number;
        final int place;

        Fault(int number, int place) {
            this.number = number;
            this.place = place;
        }
    }

    record Token(String text, int place) {
        boolean isNumber() {
            return !text.isEmpty() && Character.isDigit(text.charAt(0));
        }

        boolean isWord() {
            return text.matches("[a-z]+");
        }
    }

    static final class Someone {
        int purse;
        int scars;
        int[] truth;
    }

    static final class Bard {
        int purse;
        int next;
        int sits;
        List<int[]> lines = new ArrayList<>();
        int[] before = new int[8];
    }

    static final class Land {
        int topics = 3;
        int year;
        List<Someone> people = new ArrayList<>();
        List<Bard> poets = new ArrayList<>();
        Map<String, Expr> rules = new HashMap<>();
        // what happens while years go by
        List<int[]> hits = new ArrayList<>();
        int[] paid = new int[4];
        int[] earned = new int[4];
        int[] read = new int[4];

        Land copy() {
            Land c = new Land();
            c.topics = topics;
            c.year = year;
            c.rules = rules;
            for (Someone s : people) {
                Someone t = new Someone();
                t.purse = s.purse;
                t.scars = s.scars;
                t.truth = s.truth.clone();
                c.people.add(t);
            }
            for (Bard b : poets) {
                Bard d = new Bard();
                d.purse = b.purse;
                d.next = b.next;
                d.sits = b.sits;
                d.before = b.before.clone();
                for (int[] l : b.lines) {
                    d.lines.add(l.clone());
                }
                c.poets.add(d);
            }
            return c;
        }

        Map<String, Integer> values(Bard b, int p, int purse) {
            Map<String, Integer> v = new HashMap<>();
            v.put("scars", people.get(p).scars);
            v.put("purse", purse);
            v.put("before", b.before[p]);
            v.put("year", year);
            return v;
        }

        int inches(int poet, int p, int topic, int depth) {
            Bard b = poets.get(poet);
            int truth = people.get(p).truth[topic];
            if (!rules.containsKey("hits")) {
                return Math.min(depth, truth);
            }
            Map<String, Integer> v = values(b, p, b.purse);
            v.put("depth", depth);
            v.put("true", truth);
            return Math.max(0, Math.min(9, rules.get("hits").at(v)));
        }

        int rhymes(int poet, int line) {
            List<int[]> l = poets.get(poet).lines;
            return l.get(line)[0] == l.get((line + l.size() - 1) % l.size())[0] ? 1 : 0;
        }

        int fine(int poet, int p, int line, int inches) {
            if (inches == 0) {
                return 0;
            }
            if (!rules.containsKey("fines")) {
                return inches;
            }
            Map<String, Integer> v = values(poets.get(poet), p, poets.get(poet).purse);
            v.put("inches", inches);
            v.put("rhymes", rhymes(poet, line));
            return Math.max(0, Math.min(20, rules.get("fines").at(v)));
        }

        int inchesOf(int poet, int p, int line) {
            int[] l = poets.get(poet).lines.get(line);
            return inches(poet, p, l[0], l[1]);
        }

        int fineOf(int poet, int p, int line) {
            return fine(poet, p, line, inchesOf(poet, p, line));
        }

        /** Each hit goes into hits: the year's number, the poet, the person, the inches. */
        Land pass(int number, boolean accident) {
            for (int poet = 0; poet < poets.size(); poet++) {
                Bard b = poets.get(poet);
                if (b.sits > 0) {
                    b.sits--;
                    continue;
                }
                for (int p = 0; p < people.size(); p++) {
                    Someone s = people.get(p);
                    boolean buys = !rules.containsKey("buys") || rules.get("buys").at(values(b, p, s.purse)) > 0;
                    if (s.purse > 0 && buys) {
                        s.purse--;
                        if (b.purse < 999) {
                            b.purse++;
                            earned[poet]++;
                        }
                    }
                }
                int[] line = b.lines.get(b.next);
                int lacked = 0;
                for (int p = 0; p < people.size(); p++) {
                    Someone s = people.get(p);
                    int inches = inches(poet, p, line[0], accident ? 9 : line[1]);
                    if (inches > 0) {
                        int fine = fine(poet, p, b.next, inches);
                        int pays = Math.min(fine, b.purse);
                        b.purse -= pays;
                        s.purse = Math.min(999, s.purse + pays);
                        s.scars = Math.min(99, s.scars + inches);
                        b.before[p]++;
                        paid[poet] += pays;
                        lacked = Math.max(lacked, fine - pays);
                        hits.add(new int[] {number, poet, p, inches});
                    }
                }
                read[poet]++;
                b.sits = Math.min(9, lacked);
                b.next = (b.next + 1) % b.lines.size();
            }
            year++;
            return this;
        }

        Land after(int years) {
            Land c = copy();
            for (int k = 1; k <= years; k++) {
                c.pass(k, false);
            }
            return c;
        }

        void turn(int poet) {
            Bard b = poets.get(poet);
            b.next = (b.next + 1) % b.lines.size();
        }

        int money() {
            return people.stream().mapToInt(s -> s.purse).sum();
        }

        int scars() {
            return people.stream().mapToInt(s -> s.scars).sum();
        }

        int ofPerson(int p, int what) {
            Someone s = people.get(p);
            return what == 0 ? s.purse : what == 1 ? s.scars : poets.stream().mapToInt(b -> b.before[p]).sum();
        }

        int whole() {
            int bits = 0;
            for (int p = 0; p < people.size(); p++) {
                bits += people.get(p).scars == 0 ? 1 << p : 0;
            }
            return bits;
        }

        int sitting() {
            int bits = 0;
            for (int p = 0; p < poets.size(); p++) {
                bits += poets.get(p).sits > 0 ? 1 << p : 0;
            }
            return bits;
        }
    }

    /** Reads a text; throws the first Fault. */
    static final class Reading {
        private static final Set<String> ALL = Set.of("scars", "purse", "before", "year");
        private static final Map<String, Set<String>> MORE = Map.of("hits", Set.of("depth", "true"),
                "fines", Set.of("inches", "rhymes"), "buys", Set.of());
        private final Deque<Token> tokens = new ArrayDeque<>();
        private final Land land = new Land();
        private String rule = "";

        Reading(String text) {
            java.util.regex.Matcher m = java.util.regex.Pattern.compile("[a-z]+|[0-9]+|[^ \\n]", 32).matcher(text);
            while (m.find()) {
                tokens.add(new Token(m.group(), m.start()));
            }
            tokens.add(new Token("", text.length()));
        }

        private boolean sees(String text) {
            return tokens.peek().text().equals(text);
        }

        private Fault at(int number) {
            return new Fault(number, tokens.peek().place());
        }

        private void take(String text) {
            if (!sees(text)) {
                throw at(1);
            }
            tokens.pop();
        }

        private int number(int least, int most, int fault) {
            if (!tokens.peek().isNumber()) {
                throw at(1);
            }
            java.math.BigInteger n = new java.math.BigInteger(tokens.peek().text());
            boolean fits = n.compareTo(java.math.BigInteger.valueOf(least)) >= 0
                    && n.compareTo(java.math.BigInteger.valueOf(most)) <= 0;
            if (tokens.peek().text().length() > 4) {
                throw at(2);
            }
            if (!fits) {
                throw at(fault);
            }
            tokens.pop();
            return n.intValue();
        }

        Land read() {
            if (sees("topics")) {
                tokens.pop();
                land.topics = number(2, 4, 2);
                take(";");
            }
            while (!sees("")) {
                clause();
            }
            return land;
        }

        private void clause() {
            String word = tokens.peek().text();
            switch (word) {
                case "person" -> {
                    if (land.people.size() == 8) {
                        throw at(2);
                    }
                    tokens.pop();
                    Someone s = new Someone();
                    s.purse = number(0, 99, 2);
                    s.truth = new int[land.topics];
                    for (int t = 0; t < land.topics; t++) {
                        s.truth[t] = number(0, 9, 2);
                    }
                    land.people.add(s);
                }
                case "poet" -> {
                    if (land.poets.size() == 4) {
                        throw at(2);
                    }
                    tokens.pop();
                    Bard b = new Bard();
                    b.purse = number(0, 99, 2);
                    do {
                        if (b.lines.size() == 6 && tokens.peek().isNumber()) {
                            throw at(2);
                        }
                        b.lines.add(new int[] {number(0, land.topics - 1, 3), number(0, 9, 2)});
                    } while (tokens.peek().isNumber());
                    land.poets.add(b);
                }
                case "hits", "fines", "buys" -> {
                    if (land.rules.containsKey(word)) {
                        throw at(5);
                    }
                    tokens.pop();
                    rule = word;
                    land.rules.put(word, expr(0));
                }
                default -> throw at(1);
            }
            take(";");
        }

        private Expr expr(int around) {
            Token t = tokens.peek();
            if (around == 6 && (t.isNumber() || t.isWord() || t.text().equals("("))) {
                throw at(2);
            }
            Expr left = and(around);
            while (sees("or")) {
                tokens.pop();
                Expr a = left;
                Expr b = and(around);
                left = v -> a.at(v) != 0 | b.at(v) != 0 ? 1 : 0;
            }
            return left;
        }

        private Expr and(int around) {
            Expr left = not(around, 0);
            while (sees("and")) {
                tokens.pop();
                Expr a = left;
                Expr b = not(around, 0);
                left = v -> a.at(v) != 0 & b.at(v) != 0 ? 1 : 0;
            }
            return left;
        }

        private Expr not(int around, int nots) {
            if (sees("not")) {
                if (nots == 6) {
                    throw at(2);
                }
                tokens.pop();
                Expr a = not(around, nots + 1);
                return v -> a.at(v) == 0 ? 1 : 0;
            }
            Expr a = sum(around);
            if (sees("<") || sees("=")) {
                boolean less = tokens.pop().text().equals("<");
                Expr b = sum(around);
                return v -> (less ? a.at(v) < b.at(v) : a.at(v) == b.at(v)) ? 1 : 0;
            }
            return a;
        }

        private Expr sum(int around) {
            Expr left = product(around);
            while (sees("+") || sees("-")) {
                boolean plus = tokens.pop().text().equals("+");
                Expr a = left;
                Expr b = product(around);
                left = v -> plus ? a.at(v) + b.at(v) : a.at(v) - b.at(v);
            }
            return left;
        }

        private Expr product(int around) {
            Expr left = part(around);
            while (sees("*") || sees("/")) {
                boolean times = tokens.pop().text().equals("*");
                Expr a = left;
                Expr b = part(around);
                left = v -> {
                    int by = b.at(v);
                    return times ? a.at(v) * by : by == 0 ? 0 : a.at(v) / by;
                };
            }
            return left;
        }

        private Expr part(int around) {
            Token t = tokens.peek();
            if (t.isNumber()) {
                int n = number(0, 9999, 2);
                return v -> n;
            }
            if (t.isWord()) {
                if (!ALL.contains(t.text()) && !MORE.get(rule).contains(t.text())) {
                    throw at(3);
                }
                tokens.pop();
                return v -> v.get(t.text());
            }
            take("(");
            Expr inner = expr(around + 1);
            take(")");
            return inner;
        }
    }

    private String tape = "";
    private int faultAt = -1;
    private final int[] status = new int[3];
    private Land now = new Land();
    private List<Land> acts = new ArrayList<>();
    private List<int[]> felt = new ArrayList<>();
    private Land imageNow;
    private List<Land> imageActs;
    private List<int[]> imageFelt;

    private static void no(boolean condition) {
        if (condition) {
            throw new NoSuchElementException();
        }
    }

    private static void wrong(boolean condition) {
        if (condition) {
            throw new IllegalArgumentException();
        }
    }

    private void person(int p) {
        no(p < 0 || p >= now.people.size());
    }

    private void poet(int p) {
        no(p < 0 || p >= now.poets.size());
    }

    private static void what(int what, int most) {
        no(what < 0 || what > most);
    }

    private static void span(int n, int least, int most) {
        wrong(n < least || n > most);
    }

    private int refused() {
        status[1]++;
        return -1;
    }

    private void keep() {
        acts.add(now.copy());
        if (acts.size() > 40) {
            acts.remove(0);
        }
    }

    int feed(int a, int b, int c, int d, int e) {
        if (tape.length() > 680) {
            return -1;
        }
        StringBuilder more = new StringBuilder(tape);
        for (int n : new int[] {a, b, c, d, e}) {
            for (byte x : java.nio.ByteBuffer.allocate(4).putInt(n).array()) {
                more.append((char) (x & 255));
            }
        }
        tape = more.toString();
        return tape.length();
    }

    int state(int n) {
        wrong(n < 0 || n > tape.length());
        String text = tape.substring(0, n);
        tape = "";
        try {
            now = new Reading(text).read();
        } catch (Fault f) {
            faultAt = f.place;
            status[0]++;
            return f.number;
        }
        faultAt = -1;
        acts = new ArrayList<>();
        felt = new ArrayList<>();
        imageNow = null;
        return 0;
    }

    int fault() {
        return faultAt;
    }

    int count(int what) {
        what(what, 14);
        int[] all = {now.topics, now.people.size(), now.poets.size(), now.year, now.money(),
            now.poets.stream().mapToInt(b -> b.purse).sum(), now.scars(), now.whole(), now.sitting(),
            acts.size(), felt.size(), tape.length(), status[0], status[1], status[2]};
        return all[what];
    }

    int person(int p, int what) {
        person(p);
        if (what >= 10) {
            what(what, 9 + now.topics);
            return now.people.get(p).truth[what - 10];
        }
        what(what, 2);
        return now.ofPerson(p, what);
    }

    int poet(int p, int what) {
        poet(p);
        what(what, 4);
        Bard b = now.poets.get(p);
        int bits = 0;
        for (int k = 0; k < now.people.size(); k++) {
            bits += now.inchesOf(p, k, b.next) > 0 ? 1 << k : 0;
        }
        return new int[] {b.purse, b.lines.size(), b.next, b.sits, bits}[what];
    }

    private int fineOfLine(int p, int l) {
        int sum = 0;
        for (int k = 0; k < now.people.size(); k++) {
            sum += now.fineOf(p, k, l);
        }
        return sum;
    }

    private int inchesOfLine(int p, int l) {
        int sum = 0;
        for (int k = 0; k < now.people.size(); k++) {
            sum += now.inchesOf(p, k, l);
        }
        return sum;
    }

    int line(int p, int l, int what) {
        poet(p);
        no(l < 0 || l >= now.poets.get(p).lines.size());
        what(what, 4);
        int[] line = now.poets.get(p).lines.get(l);
        return new int[] {line[0], line[1], now.rhymes(p, l), fineOfLine(p, l), inchesOfLine(p, l)}[what];
    }

    int years(int many) {
        if (many < 1 || many > 20 || now.year + many > 9999) {
            return refused();
        }
        keep();
        now = now.after(many);
        return now.year;
    }

    int burn(int p) {
        poet(p);
        if (now.poets.get(p).lines.size() == 1) {
            return refused();
        }
        keep();
        int was = now.poets.get(p).next;
        now.turn(p);
        return was;
    }

    int rewrite(int p, int l, int depth) {
        poet(p);
        no(l < 0 || l >= now.poets.get(p).lines.size());
        int was = now.poets.get(p).lines.get(l)[1];
        if (depth < 0 || depth > 9 || depth == was) {
            return refused();
        }
        keep();
        now.poets.get(p).lines.get(l)[1] = depth;
        return was;
    }

    int pardon(int p) {
        poet(p);
        int was = now.poets.get(p).sits;
        if (was == 0) {
            return refused();
        }
        keep();
        now.poets.get(p).sits = 0;
        return was;
    }

    int fill(int p, int purse) {
        person(p);
        int was = now.people.get(p).purse;
        if (purse < 0 || purse > 99 || purse == was) {
            return refused();
        }
        keep();
        now.people.get(p).purse = purse;
        return was;
    }

    int heal(int p) {
        person(p);
        int was = now.people.get(p).scars;
        if (was == 0) {
            return refused();
        }
        keep();
        now.people.get(p).scars = 0;
        return was;
    }

    int undo() {
        if (acts.isEmpty()) {
            return -1;
        }
        now = acts.remove(acts.size() - 1).copy();
        return acts.size();
    }

    int then(int p, int years, int what) {
        person(p);
        what(what, 2);
        span(years, 0, 60);
        return now.after(years).ofPerson(p, what);
    }

    int poetThen(int p, int years, int what) {
        poet(p);
        what(what, 5);
        span(years, 0, 60);
        Land l = now.after(years);
        Bard b = l.poets.get(p);
        return new int[] {b.purse, b.next, b.sits, l.paid[p], l.earned[p], l.read[p]}[what];
    }

    int hurt(int person, int poet) {
        person(person);
        poet(poet);
        return now.after(60).hits.stream().filter(h -> h[1] == poet && h[2] == person)
                .mapToInt(h -> h[0]).findFirst().orElse(-1);
    }

    int later(int years, int what) {
        what(what, 4);
        span(years, 0, 60);
        Land l = now.after(years);
        int rich = -1;
        for (int p = l.people.size() - 1; p >= 0; p--) {
            rich = rich < 0 || l.people.get(p).purse >= l.people.get(rich).purse ? p : rich;
        }
        int poor = -1;
        for (int p = l.poets.size() - 1; p >= 0; p--) {
            poor = poor < 0 || l.poets.get(p).purse <= l.poets.get(poor).purse ? p : poor;
        }
        int injured = l.hits.stream().mapToInt(h -> 1 << h[2]).reduce(0, (a, b) -> a | b);
        return new int[] {rich, poor, l.sitting(), l.whole(), injured}[what];
    }

    int worst(int years, int what) {
        what(what, 1);
        span(years, 1, 60);
        List<int[]> hits = now.after(years).hits;
        if (what == 0) {
            return hits.stream().mapToInt(h -> h[3]).max().orElse(0);
        }
        return years - (int) hits.stream().mapToInt(h -> h[0]).distinct().count();
    }

    int probe(int poet, int person, int topic, int depth) {
        poet(poet);
        person(person);
        span(topic, 0, now.topics - 1);
        span(depth, 0, 9);
        return now.inches(poet, person, topic, depth);
    }

    int safe(int poet, int topic) {
        poet(poet);
        span(topic, 0, now.topics - 1);
        int depth = 0;
        while (depth < 10) {
            for (int p = 0; p < now.people.size(); p++) {
                if (now.inches(poet, p, topic, depth) > 0) {
                    return depth - 1;
                }
            }
            depth++;
        }
        return 9;
    }

    int sonnet(int poet, int what) {
        poet(poet);
        what(what, 1);
        int best = -1;
        int which = -1;
        for (int bits = 0; bits < 1 << now.poets.get(poet).lines.size(); bits++) {
            int fines = 0;
            int inches = 0;
            for (int l = 0; l < 6; l++) {
                if ((bits >> l & 1) == 1) {
                    fines += fineOfLine(poet, l);
                    inches += inchesOfLine(poet, l);
                }
            }
            if (fines <= now.poets.get(poet).purse && inches > best) {
                best = inches;
                which = bits;
            }
        }
        return what == 0 ? best : which;
    }

    private int due(int poet, int person) {
        int sum = 0;
        for (int l = 0; l < now.poets.get(poet).lines.size(); l++) {
            sum += now.fineOf(poet, person, l);
        }
        return sum;
    }

    int action(int poet) {
        poet(poet);
        for (int many = 1; many <= 8; many++) {
            for (int bits = 0; bits < 1 << now.people.size(); bits++) {
                int sum = 0;
                for (int p = 0; p < 8; p++) {
                    sum += (bits >> p & 1) == 1 ? due(poet, p) : 0;
                }
                if (Integer.bitCount(bits) == many && sum > now.poets.get(poet).purse) {
                    return bits;
                }
            }
        }
        return -1;
    }

    int readings(int poet) {
        if (poet != -1) {
            poet(poet);
        }
        int n = now.people.size();
        int[] best = null;
        int bestSum = 0;
        int bestMany = 0;
        // rows as numbers in base n + 1; nobody is n
        int rows = (int) Math.round(Math.pow(n + 1, now.poets.size()));
        for (int k = 0; k < rows; k++) {
            int[] row = new int[now.poets.size()];
            int rest = k;
            for (int p = row.length - 1; p >= 0; p--) {
                row[p] = rest % (n + 1);
                rest /= n + 1;
            }
            Set<Integer> taken = new HashSet<>();
            boolean fine = true;
            int sum = 0;
            for (int p = 0; p < row.length; p++) {
                if (row[p] < n) {
                    fine &= taken.add(row[p]) && now.poets.get(p).sits == 0;
                    sum += now.inchesOf(p, row[p], now.poets.get(p).next);
                }
            }
            boolean better = best == null || taken.size() > bestMany || taken.size() == bestMany && sum > bestSum;
            if (fine && better) {
                best = row;
                bestSum = sum;
                bestMany = taken.size();
            }
        }
        return poet == -1 ? bestSum : best[poet] == n ? -1 : best[poet];
    }

    int best(int years, int what) {
        what(what, 1);
        span(years, 1, 60);
        int chosen = -1;
        int value = value(now.copy(), years, what);
        for (int p = 0; p < now.poets.size(); p++) {
            Land l = now.copy();
            if (what == 0) {
                if (l.poets.get(p).sits == 0) {
                    continue;
                }
                l.poets.get(p).sits = 0;
            } else {
                l.turn(p);
            }
            int mine = value(l, years, what);
            if (mine > value) {
                value = mine;
                chosen = p;
            }
        }
        return chosen;
    }

    private static int value(Land l, int years, int what) {
        Land then = l.after(years);
        return what == 0 ? then.money() : -then.hits.stream().mapToInt(h -> h[3]).sum();
    }

    int feel(int p, int year, boolean hit) {
        person(p);
        if (felt.size() == 8 || year < 1 || year > 20) {
            status[2]++;
            return -1;
        }
        felt.add(new int[] {p, year, hit ? 1 : 0});
        return felt.size();
    }

    void forget() {
        felt.clear();
    }

    private boolean so(Land l) {
        List<int[]> hits = l.after(20).hits;
        return felt.stream().allMatch(f ->
                hits.stream().anyMatch(h -> h[0] == f[1] && h[2] == f[0]) == (f[2] == 1));
    }

    private List<int[]> allTruths() {
        List<int[]> all = new ArrayList<>();
        for (int p = 0; p < now.people.size(); p++) {
            for (int t = 0; t < now.topics; t++) {
                for (int n = 0; n < 10; n++) {
                    Land l = now.copy();
                    l.people.get(p).truth[t] = n;
                    if (n != now.people.get(p).truth[t] && so(l)) {
                        all.add(new int[] {p, t, n});
                    }
                }
            }
        }
        return all;
    }

    int truths(int what) {
        what(what, 2);
        if (what == 2) {
            return so(now) ? 1 : 0;
        }
        List<int[]> all = allTruths();
        if (what == 0) {
            return all.size();
        }
        return all.isEmpty() ? -1 : all.get(0)[0] * 100 + all.get(0)[1] * 10 + all.get(0)[2];
    }

    int listen(int what) {
        what(what, 1);
        List<Set<Integer>> seen = new ArrayList<>();
        for (int p = 0; p < now.people.size(); p++) {
            seen.add(new HashSet<>());
        }
        for (int[] t : allTruths()) {
            Land l = now.copy();
            l.people.get(t[0]).truth[t[1]] = t[2];
            Land then = l.after(5);
            for (int p = 0; p < seen.size(); p++) {
                seen.get(p).add(then.people.get(p).scars);
            }
        }
        int who = -1;
        int most = 0;
        for (int p = 0; p < seen.size(); p++) {
            if (seen.get(p).size() > most) {
                most = seen.get(p).size();
                who = p;
            }
        }
        return what == 0 ? who : most;
    }

    int accidents(int p, int years, int tenths) {
        person(p);
        span(years, 1, 5);
        span(tenths, 0, 10);
        return chance(now, p, years, tenths);
    }

    private static int chance(Land l, int p, int years, int tenths) {
        if (years == 0) {
            return l.people.get(p).scars == 0 ? 1 : 0;
        }
        return tenths * chance(l.copy().pass(0, true), p, years - 1, tenths)
                + (10 - tenths) * chance(l.copy().pass(0, false), p, years - 1, tenths);
    }

    int game(int a, int b, int what) {
        poet(a);
        poet(b);
        what(what, 1);
        wrong(a == b);
        int many = 0;
        int first = -1;
        for (int i = 0; i < 2; i++) {
            for (int j = 0; j < 2; j++) {
                boolean rests = gain(a, b, i, j, a) >= gain(a, b, 1 - i, j, a)
                        && gain(a, b, i, j, b) >= gain(a, b, i, 1 - j, b);
                first = rests && many == 0 ? 10 * i + j : first;
                many += rests ? 1 : 0;
            }
        }
        return what == 0 ? many : first;
    }

    private int gain(int a, int b, int burnA, int burnB, int whose) {
        Land l = now.copy();
        if (burnA == 1) {
            l.turn(a);
        }
        if (burnB == 1) {
            l.turn(b);
        }
        Bard then = l.after(4).poets.get(whose);
        return then.purse - 3 * then.sits;
    }

    private int seed;

    private int draw(int n) {
        seed = seed * 1103515245 + 12345;
        return (seed >> 16 & 32767) % n;
    }

    int decades(int firstSeed, int n, int what) {
        what(what, 2);
        span(n, 0, 60);
        seed = firstSeed;
        Land l = now.copy();
        for (int k = 0; k < n; k++) {
            int d = draw(6);
            if (d == 0 && !l.poets.isEmpty()) {
                l.poets.get(draw(l.poets.size())).sits = 0;
            }
            if (d == 1 && !l.people.isEmpty()) {
                l.people.get(draw(l.people.size())).scars = 0;
            }
            if (d == 2 && !l.poets.isEmpty()) {
                Bard b = l.poets.get(draw(l.poets.size()));
                b.lines.get(b.next)[1] = draw(10);
            }
            l.pass(k, false);
        }
        return new int[] {l.hits.size(), l.scars(), l.money()}[what];
    }

    int jailed(int p, int years) {
        poet(p);
        span(years, 0, 60);
        return years - now.after(years).read[p];
    }

    int into(int person, int poet, int years) {
        person(person);
        poet(poet);
        span(years, 0, 60);
        return now.after(years).hits.stream().filter(h -> h[1] == poet && h[2] == person).mapToInt(h -> h[3]).sum();
    }

    int laureate(int years) {
        span(years, 0, 60);
        int[] paid = now.after(years).paid;
        int best = -1;
        for (int p = 0; p < now.poets.size(); p++) {
            best = best == -1 || paid[p] < paid[best] ? p : best;
        }
        return best;
    }

    int plaintiff(int person) {
        person(person);
        int best = -1;
        for (int p = 0; p < now.poets.size(); p++) {
            if (due(p, person) > (best == -1 ? 0 : due(best, person))) {
                best = p;
            }
        }
        return best;
    }

    void image() {
        imageNow = now.copy();
        imageActs = new ArrayList<>(acts);
        imageFelt = new ArrayList<>(felt);
    }

    boolean restore() {
        if (imageNow == null) {
            return false;
        }
        now = imageNow.copy();
        acts = new ArrayList<>(imageActs);
        felt = new ArrayList<>(imageFelt);
        return true;
    }
}

import java.util.ArrayList;
import java.util.Arrays;
import java.util.HashMap;
import java.util.List;
import java.util.Map;
import java.util.NoSuchElementException;
import java.util.Set;

/**
 * The document once more, written as plainly as can be (a tree for each E, copies for each day ahead, no short cuts),
 * so that the program's answers can be held against it.
 */
final class Model {
    static final Set<String> WORDS = Set.of("man", "deed", "plan", "bet", "pay", "rain", "seed", "law", "push",
            "habit", "fair", "or", "and", "not", "base", "goal", "steps", "row", "lacks", "behind", "day");
    static final List<String> RULES = List.of("push", "habit", "fair");

    static final class Fault extends RuntimeException {
        private static final long serialVersionUID = 1L;
        final int what;
        final int place;

        Fault(int what, int place) {
            this.what = what;
            this.place = place;
        }
    }

    static final class Wrong extends RuntimeException {
        private static final long serialVersionUID = 1L;
    }

    record Token(String text, int place) { }

    record Knot(String sign, Knot left, Knot right) {
        long value(Map<String, Long> names) {
            if (left == null && right == null) {
                return Character.isDigit(sign.charAt(0)) ? Long.parseLong(sign) : names.get(sign);
            }
            if (sign.equals("not")) {
                return left.value(names) == 0 ? 1 : 0;
            }
            long a = left.value(names);
            long b = right.value(names);
            java.math.BigInteger x = java.math.BigInteger.valueOf(a);
            java.math.BigInteger y = java.math.BigInteger.valueOf(b);
            switch (sign) {
                case "+": return bounded(x.add(y));
                case "-": return bounded(x.subtract(y));
                case "*": return bounded(x.multiply(y));
                case "/":
                    if (b == 0) {
                        throw new Wrong();
                    }
                    return bounded(x.divide(y));
                case "<": return a < b ? 1 : 0;
                case "<=": return a <= b ? 1 : 0;
                case "=": return a == b ? 1 : 0;
                case "<>": return a != b ? 1 : 0;
                case ">=": return a >= b ? 1 : 0;
                case ">": return a > b ? 1 : 0;
                case "and": return a != 0 && b != 0 ? 1 : 0;
                case "or": return a != 0 || b != 0 ? 1 : 0;
                default: throw new IllegalStateException(sign);
            }
        }

        private static long bounded(java.math.BigInteger v) {
            if (v.abs().compareTo(java.math.BigInteger.TEN.pow(12)) > 0) {
                throw new Wrong();
            }
            return v.longValue();
        }
    }

    /** What a text tells. */
    static final class Told {
        final List<String> men = new ArrayList<>();
        final List<int[]> manNumbers = new ArrayList<>();
        final List<String> deeds = new ArrayList<>();
        final List<int[]> deedNumbers = new ArrayList<>();
        final List<int[]> plans = new ArrayList<>();
        final Map<String, int[]> single = new HashMap<>();
        final Map<String, Knot> laws = new HashMap<>();
        int knots = 0;
        int lines = 0;

        int single(String word, int at, int without) {
            return single.containsKey(word) ? single.get(word)[at] : without;
        }

        int rain() {
            return single("rain", 0, 0);
        }
    }

    static final class Parser {
        final String text;
        final Told told = new Told();
        Token token;
        int at = 0;
        int open = 0;

        Parser(String text) {
            this.text = text;
            next();
        }

        void next() {
            while (at < text.length() && (text.charAt(at) == ' ' || text.charAt(at) == '\n')) {
                at++;
            }
            int from = at;
            if (at == text.length()) {
                token = new Token("", from);
                return;
            }
            String rest = text.substring(at);
            java.util.regex.Matcher m = java.util.regex.Pattern.compile("[a-z]+|[0-9]+|<=|<>|>=|[\\s\\S]").matcher(rest);
            m.lookingAt();
            at += m.end();
            token = new Token(m.group(), from);
        }

        Fault fault(int what) {
            return new Fault(what, token.place);
        }

        boolean is(String... any) {
            return Arrays.asList(any).contains(token.text);
        }

        int number(int low, int high) {
            if (!token.text.matches("[0-9]+")) {
                throw fault(1);
            }
            java.math.BigInteger v = new java.math.BigInteger(token.text);
            if (v.compareTo(java.math.BigInteger.valueOf(low)) < 0 || v.compareTo(java.math.BigInteger.valueOf(high)) > 0) {
                throw fault(2);
            }
            next();
            return v.intValue();
        }

        void needName() {
            if (!token.text.matches("[a-z]{1,6}") || WORDS.contains(token.text)) {
                throw fault(1);
            }
        }

        String newName(List<String> names) {
            needName();
            if (names.contains(token.text)) {
                throw fault(3);
            }
            String name = token.text;
            next();
            return name;
        }

        int oldName(List<String> names) {
            needName();
            if (!names.contains(token.text)) {
                throw fault(4);
            }
            return names.indexOf(token.text);
        }

        Told parse() {
            while (!token.text.isEmpty()) {
                line();
                if (!is(";")) {
                    throw fault(1);
                }
                next();
                told.lines++;
            }
            return told;
        }

        void line() {
            String word = token.text;
            switch (word) {
                case "man":
                    if (told.men.size() == 5) {
                        throw fault(2);
                    }
                    next();
                    told.men.add(newName(told.men));
                    told.manNumbers.add(new int[] {number(0, 99), number(0, 99), number(0, 99)});
                    break;
                case "deed":
                    if (told.deeds.size() == 6) {
                        throw fault(2);
                    }
                    next();
                    told.deeds.add(newName(told.deeds));
                    told.deedNumbers.add(new int[] {number(0, 20), number(0, 20), number(0, 9)});
                    break;
                case "plan":
                    planLine();
                    break;
                case "bet":
                    once(word);
                    told.single.put(word, new int[] {number(0, 999), number(1, 14)});
                    break;
                case "pay":
                    once(word);
                    told.single.put(word, new int[] {number(0, 99), number(0, 999)});
                    break;
                case "rain":
                    once(word);
                    told.single.put(word, new int[] {number(0, 100)});
                    break;
                case "seed":
                    once(word);
                    told.single.put(word, new int[] {number(0, 99999)});
                    break;
                case "law":
                    next();
                    String rule = token.text;
                    if (!RULES.contains(rule)) {
                        throw fault(1);
                    }
                    if (told.laws.containsKey(rule)) {
                        throw fault(3);
                    }
                    next();
                    open = 0;
                    told.laws.put(rule, e());
                    break;
                default:
                    throw fault(1);
            }
        }

        void planLine() {
            if (told.plans.size() == 12) {
                throw fault(2);
            }
            next();
            int man = oldName(told.men);
            next();
            int deed = oldName(told.deeds);
            for (int[] p : told.plans) {
                if (p[0] == man && p[1] == deed) {
                    throw fault(3);
                }
            }
            next();
            told.plans.add(new int[] {man, deed, number(1, 9)});
        }

        void once(String word) {
            if (told.single.containsKey(word)) {
                throw fault(3);
            }
            next();
        }

        String knot() {
            if (told.knots == 64) {
                throw fault(2);
            }
            told.knots++;
            String s = token.text;
            next();
            return s;
        }

        Knot e() {
            Knot left = a();
            while (is("or")) {
                left = new Knot(knot(), left, a());
            }
            return left;
        }

        Knot a() {
            Knot left = b();
            while (is("and")) {
                left = new Knot(knot(), left, b());
            }
            return left;
        }

        Knot b() {
            if (is("not")) {
                return new Knot(knot(), b(), null);
            }
            return c();
        }

        Knot c() {
            Knot left = s();
            if (is("<", "<=", "=", "<>", ">=", ">")) {
                return new Knot(knot(), left, s());
            }
            return left;
        }

        Knot s() {
            Knot left = t();
            while (is("+", "-")) {
                left = new Knot(knot(), left, t());
            }
            return left;
        }

        Knot t() {
            Knot left = p();
            while (is("*", "/")) {
                left = new Knot(knot(), left, p());
            }
            return left;
        }

        Knot p() {
            if (is("(")) {
                if (open == 8) {
                    throw fault(2);
                }
                open++;
                next();
                Knot inside = e();
                if (!is(")")) {
                    throw fault(1);
                }
                next();
                open--;
                return inside;
            }
            if (token.text.matches("[0-9]+")) {
                if (new java.math.BigInteger(token.text).compareTo(java.math.BigInteger.valueOf(9999)) > 0) {
                    throw fault(2);
                }
                return new Knot(new java.math.BigInteger(knot()).toString(), null, null);
            }
            if (is("base", "goal", "steps", "row", "lacks", "behind", "day")) {
                return new Knot(knot(), null, null);
            }
            throw fault(1);
        }
    }

    static final class Man {
        int goal;
        int base;
        int push;
        int row;
        int broken;
        int sum;
        int walked;
        int steps;
        int lent;
        int pence;
        int won;
        boolean band = true;
        boolean there = true;
        int[] times = new int[6];

        Man copy() {
            Man c = new Man();
            c.goal = goal;
            c.base = base;
            c.push = push;
            c.row = row;
            c.broken = broken;
            c.sum = sum;
            c.walked = walked;
            c.steps = steps;
            c.lent = lent;
            c.pence = pence;
            c.won = won;
            c.band = band;
            c.there = there;
            c.times = times.clone();
            return c;
        }
    }

    static final class State {
        final Told told;
        final List<Man> men = new ArrayList<>();
        int day;
        int wet;
        long number;
        int winner = -1;
        boolean nobodyPushes;

        State(Told told) {
            this.told = told;
            number = told.single("seed", 0, 0);
            for (int i = 0; i < told.men.size(); i++) {
                Man m = new Man();
                m.goal = told.manNumbers.get(i)[0];
                m.base = told.manNumbers.get(i)[1];
                m.push = told.manNumbers.get(i)[2];
                for (int[] p : told.plans) {
                    if (p[0] == i) {
                        m.times[p[1]] = p[2];
                    }
                }
                men.add(m);
            }
        }

        State(State other) {
            told = other.told;
            day = other.day;
            wet = other.wet;
            number = other.number;
            for (Man m : other.men) {
                men.add(m.copy());
            }
        }

        Map<String, Long> names(Man m, int steps) {
            int most = 0;
            for (Man o : men) {
                if (o.there) {
                    most = Math.max(most, o.sum);
                }
            }
            Map<String, Long> names = new HashMap<>();
            names.put("base", (long) m.base);
            names.put("goal", (long) m.goal);
            names.put("steps", (long) steps);
            names.put("row", (long) m.row);
            names.put("lacks", (long) Math.max(0, m.goal - steps));
            names.put("behind", (long) most - m.sum);
            names.put("day", (long) day);
            return names;
        }

        int ruled(String rule, Man m, int steps, int most, int otherwise) {
            if (!told.laws.containsKey(rule)) {
                return otherwise;
            }
            try {
                long v = told.laws.get(rule).value(names(m, steps));
                return v < 0 ? 0 : v > most ? most : (int) v;
            } catch (Wrong e) {
                return otherwise;
            }
        }

        int planned(Man m, int which) {
            int sum = 0;
            for (int d = 0; d < told.deeds.size(); d++) {
                sum += m.times[d] * told.deedNumbers.get(d)[which];
            }
            return sum;
        }

        boolean draw() {
            if (told.rain() == 0) {
                return false;
            }
            number = (number * 1103515245L + 12345L) % (1L << 31);
            return (number / 65536) % 100 < told.rain();
        }

        void day(boolean isWet) {
            if (isWet) {
                wet++;
            }
            for (Man m : men) {
                if (m.there) {
                    one(m, isWet);
                }
            }
            if ((day + 1) % told.single("bet", 1, 7) == 0) {
                winner = leader();
                if (winner >= 0) {
                    men.get(winner).won += told.single("bet", 0, 0);
                }
                for (Man m : men) {
                    m.sum = 0;
                }
            }
            day++;
        }

        int leader() {
            int best = -1;
            for (int i = 0; i < men.size(); i++) {
                if (men.get(i).there && (best < 0 || men.get(i).sum > men.get(best).sum)) {
                    best = i;
                }
            }
            return best;
        }

        void one(Man m, boolean isWet) {
            int base = isWet ? m.base / 2 : m.base;
            int walks = base + planned(m, 0);
            int steps = m.lent;
            if (m.band) {
                steps += base + planned(m, 1);
            }
            if (steps < m.goal && m.band && !nobodyPushes) {
                int lacks = m.goal - steps;
                if (lacks <= ruled("push", m, steps, 99, m.push)) {
                    walks += lacks;
                    steps += lacks;
                }
            }
            boolean reached = steps >= m.goal;
            int before = m.row;
            if (reached) {
                m.row++;
            } else {
                m.row = 0;
                if (before > 0) {
                    m.broken++;
                }
            }
            m.walked += walks;
            m.steps += steps;
            if (steps >= told.single("pay", 1, 0)) {
                m.pence += told.single("pay", 0, 0);
            }
            m.sum += ruled("fair", m, steps, 999, Math.min(999, steps));
            int habit = m.base;
            if (reached && m.row % 7 == 0) {
                habit = Math.min(99, m.base + 1);
            } else if (!reached && before >= 3) {
                habit = Math.max(0, m.base - 1);
            }
            m.base = ruled("habit", m, steps, 99, habit);
            m.lent = 0;
        }

        void asItGoes(int n) {
            for (int k = 0; k < n; k++) {
                day(told.rain() >= 50);
            }
        }

        int walkedByAll() {
            return men.stream().mapToInt(m -> m.walked).sum();
        }
    }

    record Note(int days, int man, int steps, boolean atLeast, int strikes) { }

    interface Change {
        void takeBack();
    }

    final StringBuilder tape = new StringBuilder();
    Told told = new Parser("").parse();
    State now = new State(told);
    State image = null;
    int fault = 0;
    int place = -1;
    final List<Note> notes = new ArrayList<>();
    int known = -1;
    final List<Change> changes = new ArrayList<>();

    boolean man(int i) {
        return i >= 0 && i < told.men.size();
    }

    boolean isDeed(int i) {
        return i >= 0 && i < told.deeds.size();
    }

    static boolean in(int x, int low, int high) {
        return x >= low && x <= high;
    }

    int feed(int... five) {
        if (tape.length() + 20 > 700) {
            return -1;
        }
        for (int v : five) {
            for (byte b : java.nio.ByteBuffer.allocate(4).putInt(v).array()) {
                tape.append((char) (b & 255));
            }
        }
        return tape.length();
    }

    int text(int n) {
        if (n < 0 || n > tape.length()) {
            return -2;
        }
        String s = tape.substring(0, n);
        tape.setLength(0);
        try {
            told = new Parser(s).parse();
        } catch (Fault f) {
            fault = f.what;
            place = f.place;
            return -1;
        }
        fault = 0;
        place = -1;
        now = new State(told);
        image = null;
        notes.clear();
        known = -1;
        changes.clear();
        return told.lines;
    }

    int fault(int what) {
        return what == 0 ? fault : what == 1 ? place : -1;
    }

    static int letters(String name) {
        int v = 0;
        for (int i = 0; i < 6; i++) {
            v = v * 32 + (i < name.length() ? name.charAt(i) - 'a' + 1 : 0);
        }
        return v;
    }

    int named(int what, int letters) {
        List<String> names = what == 0 ? told.men : what == 1 ? told.deeds : List.of();
        for (int i = 0; i < names.size(); i++) {
            if (letters(names.get(i)) == letters) {
                return i;
            }
        }
        return -1;
    }

    int man(int man, int what) {
        if (!man(man)) {
            throw new IndexOutOfBoundsException();
        }
        Man m = now.men.get(man);
        int[] all = {m.goal, m.base, m.push, m.row, m.broken, m.sum, m.walked, m.steps};
        if (!in(what, 0, 7)) {
            throw new NoSuchElementException();
        }
        return all[what];
    }

    int has(int man, int what) {
        if (!man(man) || !in(what, 0, 3)) {
            return -1;
        }
        Man m = now.men.get(man);
        return new int[] {m.band ? 1 : 0, m.lent, m.pence, m.won}[what];
    }

    int deed(int deed, int what) {
        return isDeed(deed) && in(what, 0, 2) ? told.deedNumbers.get(deed)[what] : -1;
    }

    int times(int man, int deed) {
        return man(man) && isDeed(deed) ? now.men.get(man).times[deed] : -1;
    }

    long law(int what, int man) {
        if (!man(man) || !in(what, 0, 2) || !told.laws.containsKey(RULES.get(what))) {
            return Long.MIN_VALUE;
        }
        Man m = now.men.get(man);
        int steps = m.lent + (m.band ? m.base + now.planned(m, 1) : 0);
        try {
            return told.laws.get(RULES.get(what)).value(now.names(m, steps));
        } catch (Wrong e) {
            return Long.MIN_VALUE;
        }
    }

    private void changed(Change c) {
        changes.add(c);
        if (changes.size() > 20) {
            changes.remove(0);
        }
    }

    boolean wear(int man, boolean is) {
        if (!man(man) || now.men.get(man).band == is) {
            return false;
        }
        Man m = now.men.get(man);
        changed(() -> m.band = !is);
        m.band = is;
        return true;
    }

    boolean goal(int man, int goal) {
        if (!man(man) || !in(goal, 0, 99) || now.men.get(man).goal == goal) {
            return false;
        }
        Man m = now.men.get(man);
        int was = m.goal;
        changed(() -> m.goal = was);
        m.goal = goal;
        return true;
    }

    boolean plan(int man, int deed, int times) {
        if (!man(man) || !isDeed(deed) || !in(times, 0, 9) || now.men.get(man).times[deed] == times) {
            return false;
        }
        Man m = now.men.get(man);
        int was = m.times[deed];
        changed(() -> m.times[deed] = was);
        m.times[deed] = times;
        return true;
    }

    int lend(int man, int steps) {
        if (!man(man) || !in(steps, 1, 99) || now.men.get(man).lent + steps > 999) {
            return -1;
        }
        Man m = now.men.get(man);
        changed(() -> m.lent -= steps);
        m.lent += steps;
        return m.lent;
    }

    int go(int n) {
        if (!in(n, 0, 99) || now.day + n > 9900) {
            return -1;
        }
        for (int k = 0; k < n; k++) {
            now.day(now.draw());
            changes.clear();
        }
        return now.day;
    }

    State then(int n) {
        State s = new State(now);
        s.asItGoes(n);
        return s;
    }

    int ahead(int man, int n, int what) {
        if (!man(man) || !in(n, 0, 60) || !in(what, 0, 3)) {
            return -1;
        }
        Man m = then(n).men.get(man);
        Man o = now.men.get(man);
        return new int[] {m.steps - o.steps, m.walked - o.walked, m.row, m.base}[what];
    }

    int reaches(int man, int n) {
        if (!man(man) || !in(n, 1, 99)) {
            return -1;
        }
        State s = new State(now);
        Man m = s.men.get(man);
        for (int k = 1; k <= n; k++) {
            int before = m.steps;
            s.asItGoes(1);
            if (m.steps - before >= m.goal) {
                return k;
            }
        }
        return -2;
    }

    int longest(int man, int n) {
        if (!man(man) || !in(n, 0, 99)) {
            return -1;
        }
        int most = now.men.get(man).row;
        State s = new State(now);
        for (int k = 0; k < n; k++) {
            s.asItGoes(1);
            most = Math.max(most, s.men.get(man).row);
        }
        return most;
    }

    int moves(int man, int n, int what) {
        if (!man(man) || !in(n, 1, 60) || !in(what, 0, 1)) {
            return -1;
        }
        int best = -1;
        int much = -1;
        for (int g = 0; g < 100; g++) {
            State s = new State(now);
            s.men.get(man).goal = g;
            s.asItGoes(n);
            int w = s.men.get(man).walked - now.men.get(man).walked;
            if (w > much) {
                much = w;
                best = g;
            }
        }
        return what == 0 ? best : much;
    }

    int deeds(int man, int what) {
        if (!man(man) || !in(what, 0, 4)) {
            return -1;
        }
        int four = Math.min(4, told.deeds.size());
        if (what < 4 && what >= four) {
            return -2;
        }
        Man m = now.men.get(man);
        int[] best = null;
        int least = 0;
        int[] top = new int[4];
        for (int d = 0; d < 4; d++) {
            top[d] = d < four ? 4 : 0;
        }
        for (int a = 0; a <= top[0]; a++) {
            for (int b = 0; b <= top[1]; b++) {
                for (int c = 0; c <= top[2]; c++) {
                    for (int d = 0; d <= top[3]; d++) {
                        int[] way = {a, b, c, d};
                        int steps = m.base + now.planned(m, 1);
                        int minutes = 0;
                        for (int k = 0; k < four; k++) {
                            steps += way[k] * told.deedNumbers.get(k)[1];
                            minutes += way[k] * told.deedNumbers.get(k)[2];
                        }
                        if (steps >= m.goal && (best == null || minutes < least)) {
                            best = way;
                            least = minutes;
                        }
                    }
                }
            }
        }
        if (best == null) {
            return -3;
        }
        return what == 4 ? least : best[what];
    }

    int leads() {
        return now.leader();
    }

    int toPot() {
        int d = 1;
        while ((now.day + d) % told.single("bet", 1, 7) != 0) {
            d++;
        }
        return d;
    }

    int winner(int what) {
        if (!in(what, 0, 1) || now.men.isEmpty()) {
            return -1;
        }
        return what == 0 ? then(toPot()).winner : toPot();
    }

    int needs(int man) {
        if (!man(man)) {
            return -1;
        }
        for (int more = 0; more <= 999; more++) {
            State s = new State(now);
            s.men.get(man).sum += more;
            s.asItGoes(toPot());
            if (s.winner == man) {
                return more;
            }
        }
        return -2;
    }

    private int value(int who, int one, int other, int a, int b) {
        State s = new State(now);
        s.men.get(one).lent += 10 * a;
        s.men.get(other).lent += 10 * b;
        s.asItGoes(toPot());
        return (s.winner == who ? told.single("bet", 0, 0) : 0) - 3 * (who == one ? a : b);
    }

    List<Integer> allRests(int one, int other) {
        List<Integer> rests = new ArrayList<>();
        int[][] ones = new int[5][5];
        int[][] others = new int[5][5];
        for (int a = 0; a < 5; a++) {
            for (int b = 0; b < 5; b++) {
                ones[a][b] = value(one, one, other, a, b);
                others[a][b] = value(other, one, other, a, b);
            }
        }
        for (int a = 0; a < 5; a++) {
            for (int b = 0; b < 5; b++) {
                boolean rest = true;
                for (int c = 0; c < 5; c++) {
                    rest &= ones[c][b] <= ones[a][b] && others[a][c] <= others[a][b];
                }
                if (rest) {
                    rests.add(10 * a + b);
                }
            }
        }
        return rests;
    }

    int rests(int one, int other) {
        return man(one) && man(other) && one != other ? allRests(one, other).size() : -1;
    }

    int rest(int one, int other, int k) {
        if (!man(one) || !man(other) || one == other || k < 0) {
            return -1;
        }
        List<Integer> all = allRests(one, other);
        return k < all.size() ? all.get(k) : -2;
    }

    int rank(int man) {
        if (!man(man)) {
            return -1;
        }
        int many = 0;
        for (int i = 0; i < now.men.size(); i++) {
            int mine = now.men.get(man).sum;
            int its = now.men.get(i).sum;
            many += its > mine || its == mine && i < man ? 1 : 0;
        }
        return many;
    }

    int falls(int man, int n) {
        return man(man) && in(n, 0, 99) ? then(n).men.get(man).broken - now.men.get(man).broken : -1;
    }

    int earns(int man, int n, int what) {
        if (!man(man) || !in(n, 0, 60) || !in(what, 0, 1)) {
            return -1;
        }
        Man m = then(n).men.get(man);
        Man o = now.men.get(man);
        return what == 0 ? m.pence - o.pence : m.won - o.won;
    }

    int falseOnes(int man, int what) {
        if (!man(man) || !in(what, 0, 1)) {
            return -1;
        }
        int above = 0;
        int below = 0;
        for (int d = 0; d < told.deeds.size(); d++) {
            int[] n = told.deedNumbers.get(d);
            int times = now.men.get(man).times[d];
            below += times * n[1];
            above += times * (n[1] > n[0] ? n[1] - n[0] : 0);
        }
        if (below == 0) {
            return what;
        }
        for (int k = below; k > 1; k--) {
            if (above % k == 0 && below % k == 0) {
                above /= k;
                below /= k;
            }
        }
        return what == 0 ? above : below;
    }

    int habit(int man) {
        if (!man(man)) {
            return -1;
        }
        for (int d = 0; d <= 99; d++) {
            Man m = then(d).men.get(man);
            if (m.base >= m.goal) {
                return d;
            }
        }
        return -2;
    }

    int breaks(int man, int n) {
        if (!man(man) || !in(n, 1, 60)) {
            return -1;
        }
        State s = new State(now);
        Man m = s.men.get(man);
        boolean worn = m.band;
        m.band = false;
        s.asItGoes(1);
        m.band = worn;
        s.asItGoes(n - 1);
        return Math.max(0, then(n).men.get(man).walked - m.walked);
    }

    int note(int days, int man, int steps, boolean atLeast) {
        if (!in(days, 1, 40) || !man(man) || !in(steps, 0, 99999) || notes.size() == 24) {
            return -1;
        }
        notes.add(new Note(days, man, steps, atLeast, -1));
        return notes.size() - 1;
    }

    int out(int note) {
        if (!in(note, 0, notes.size() - 1) || notes.size() == 24) {
            return -1;
        }
        notes.add(new Note(0, 0, 0, false, note));
        return notes.size() - 1;
    }

    boolean known(int n) {
        if (!in(n, -1, notes.size())) {
            return false;
        }
        known = n;
        return true;
    }

    int knownBy() {
        return known < 0 ? notes.size() : known;
    }

    boolean isStruck(int k) {
        for (int j = k + 1; j < knownBy(); j++) {
            if (notes.get(j).strikes == k && !isStruck(j)) {
                return true;
            }
        }
        return false;
    }

    int fits(int man, int deed) {
        if (!man(man) || !isDeed(deed)) {
            return -1;
        }
        int bits = 0;
        for (int t = 0; t <= 9; t++) {
            boolean all = true;
            for (int k = 0; k < knownBy(); k++) {
                Note note = notes.get(k);
                if (note.strikes < 0 && !isStruck(k)) {
                    State s = new State(told);
                    s.men.get(man).times[deed] = t;
                    s.asItGoes(note.days);
                    int steps = s.men.get(note.man).steps;
                    all &= note.atLeast ? steps >= note.steps : steps < note.steps;
                }
            }
            bits |= all ? 1 << t : 0;
        }
        return bits;
    }

    int chance(int seed, int n, int man, int row) {
        if (seed < 0 || !in(n, 1, 60) || !man(man) || !in(row, 0, 99)) {
            return -1;
        }
        int many = 0;
        long number = seed;
        for (int k = 0; k < 10; k++) {
            State s = new State(now);
            s.number = number;
            for (int d = 0; d < n; d++) {
                s.day(s.draw());
            }
            number = s.number;
            many += s.men.get(man).row >= row ? 1 : 0;
        }
        return many;
    }

    int tried(int what, int i, int n) {
        if (!in(what, 0, 5) || !in(n, 0, 60) || (what == 2 ? !man(i) : i != 0)) {
            return -1;
        }
        State s = new State(now);
        s.nobodyPushes = what == 5;
        for (int m = 0; m < s.men.size(); m++) {
            Man p = s.men.get(m);
            p.there = what != 2 || m != i;
            p.band |= what == 3;
            p.times = what == 4 ? new int[6] : p.times;
        }
        for (int k = 0; k < n; k++) {
            s.day(what != 1 && told.rain() >= 50);
        }
        return s.walkedByAll() - now.walkedByAll();
    }

    int undo() {
        if (changes.isEmpty()) {
            return -1;
        }
        changes.remove(changes.size() - 1).takeBack();
        return changes.size();
    }

    int keep() {
        image = new State(now);
        return now.day;
    }

    int back() {
        if (image == null) {
            return -1;
        }
        now = new State(image);
        changes.clear();
        return now.day;
    }

    int count(int what) {
        if (!in(what, 0, 13)) {
            return -1;
        }
        int steps = 0;
        int pence = 0;
        int won = 0;
        int broken = 0;
        for (Man m : now.men) {
            steps += m.steps;
            pence += m.pence;
            won += m.won;
            broken += m.broken;
        }
        return new int[] {told.men.size(), told.deeds.size(), told.plans.size(), told.knots, now.day, now.wet,
            now.walkedByAll(), steps, pence, won, broken, notes.size(), knownBy(), changes.size()}[what];
    }
}

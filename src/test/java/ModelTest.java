import java.util.ArrayList;
import java.util.List;
import java.util.NoSuchElementException;
import java.util.Random;

/** Runs of calls by chance, held against the model; each run has a seed of its own, so that it can be run again. */
public final class ModelTest {
    private static final String[] MEN = {"al", "bo", "cy", "dee", "abcdef", "z", "day", "sevenss"};
    private static final String[] DEED_NAMES = {"teeth", "al", "stairs", "dog", "b", "walk", "extra", "fair"};
    private static final String[] NAMES = {"base", "goal", "steps", "row", "lacks", "behind", "day"};
    private static final String[] SIGNS = {"+", "-", "*", "/", "<", "<=", "=", "<>", ">=", ">", "and", "or"};
    private static final String[] BITS = {"man", "deed", "plan", "bet", "pay", "rain", "seed", "law", "push", "habit",
        "fair", "or", "and", "not", "base", "behind", "x", "abcdefg", "5", "100", "99999", "<", "=", ">", "(", ")",
        ";", "+", "-", "*", "/", "#", "\n", " ", "A", "\t", "al", "teeth", "0", "\u00e9", "\0"};

    private final Random random;
    private final List<String> calls = new ArrayList<>();
    private WristGoal x = new WristGoal();
    private Model m = new Model();
    private int wrong = 0;

    ModelTest(long seed) {
        random = new Random(seed);
    }

    public static void main(String[] args) {
        int runs = args.length > 0 ? Integer.parseInt(args[0]) : 500;
        long first = args.length > 1 ? Long.parseLong(args[1]) : 1;
        int wrong = 0;
        long calls = 0;
        for (long seed = first; seed < first + runs && wrong < 5; seed++) {
            ModelTest test = new ModelTest(seed);
            test.run();
            calls += test.calls.size();
            if (test.wrong > 0) {
                System.out.println("wrong in the run of seed " + seed);
                wrong++;
            }
        }
        System.out.println(runs + " runs, " + calls + " calls, " + wrong + " runs wrong");
        if (wrong > 0) {
            System.exit(1);
        }
    }

    private void run() {
        int many = 40 + random.nextInt(120);
        for (int k = 0; k < 4 && m.count(0) == 0; k++) {
            tell();
        }
        for (int k = 0; k < many && wrong == 0; k++) {
            call();
        }
    }

    private int upTo(int most) {
        return random.nextInt(most + 1);
    }

    private String pick(String[] any) {
        return any[random.nextInt(any.length)];
    }

    private void answer(String call, long got, long want) {
        calls.add(call + " = " + got);
        if (got != want) {
            wrong++;
            int from = Math.max(0, calls.size() - 12);
            System.out.println(String.join("\n", calls.subList(from, calls.size())) + "  due is " + want);
        }
    }

    private void tell() {
        String text = text();
        if (random.nextInt(3) == 0) {
            text = spoilt(text);
        }
        if (text.length() > 700) {
            text = text.substring(0, 700);
        }
        StringBuilder padded = new StringBuilder(text);
        while (padded.length() % 20 != 0) {
            padded.append(' ');
        }
        for (int i = 0; i < padded.length(); i += 20) {
            int[] five = new int[5];
            for (int k = 0; k < 20; k++) {
                five[k / 4] = five[k / 4] << 8 | padded.charAt(i + k) & 255;
            }
            feed(five);
        }
        calls.add(text);
        answer("text(" + text.length() + ")", x.text(text.length()), m.text(text.length()));
        answer("fault(0)", x.fault(0), m.fault(0));
        answer("fault(1)", x.fault(1), m.fault(1));
    }

    private void feed(int[] f) {
        answer("feed(..)", x.feed(f[0], f[1], f[2], f[3], f[4]), m.feed(f));
    }

    private String text() {
        StringBuilder s = new StringBuilder();
        boolean tidy = random.nextInt(6) > 0;
        int men = tidy ? 1 + upTo(4) : upTo(6);
        int deeds = tidy ? upTo(6) : upTo(7);
        for (int i = 0; i < men; i++) {
            int goal = upTo(tidy ? 99 : 101);
            int base = random.nextBoolean() ? upTo(99) : Math.max(0, Math.min(99, goal + 10 - upTo(25)));
            s.append("man ").append(tidy ? MEN[i] : pick(MEN)).append(' ').append(goal).append(' ')
                .append(base).append(' ').append(upTo(random.nextBoolean() ? 20 : 99)).append(";");
        }
        for (int i = 0; i < deeds; i++) {
            s.append("deed ").append(tidy ? DEED_NAMES[i] : pick(DEED_NAMES)).append(' ').append(upTo(20)).append(' ')
                .append(upTo(random.nextInt(3) == 0 ? 3 : 20)).append(' ').append(upTo(9)).append(";\n");
        }
        for (int i = 0; tidy && i < men && s.length() < 500; i++) {
            for (int d = 0; d < deeds; d++) {
                if (random.nextInt(7) == 0) {
                    s.append("plan ").append(MEN[i]).append(' ').append(DEED_NAMES[d]).append(' ')
                        .append(1 + upTo(random.nextInt(3) == 0 ? 8 : 1)).append(";");
                }
            }
        }
        if (!tidy) {
            s.append("plan ").append(pick(MEN)).append(' ').append(pick(DEED_NAMES)).append(' ').append(upTo(10))
                .append(";");
        }
        line(s, "bet " + upTo(random.nextBoolean() ? 20 : 999) + " " + (1 + upTo(13)));
        line(s, "pay " + upTo(99) + " " + upTo(random.nextBoolean() ? 99 : 999));
        line(s, "rain " + (random.nextBoolean() ? upTo(100) : 30 + upTo(50)));
        line(s, "seed " + upTo(99999));
        line(s, "law push " + e(3));
        line(s, "law habit " + (random.nextBoolean() ? "base+row/3-lacks/9" : e(3)));
        line(s, "law fair " + (random.nextBoolean() ? "steps-behind/2" : e(3)));
        return s.toString();
    }

    private void line(StringBuilder s, String line) {
        if (random.nextInt(5) < 3) {
            s.append(line).append(random.nextBoolean() ? ";" : " ;\n");
        }
    }

    /** An E; now and then one whose signs stand just anyhow. */
    private String e(int deep) {
        if (random.nextInt(12) == 0) {
            return loose(deep);
        }
        String s = conjunction(deep);
        while (random.nextInt(6) == 0) {
            s += " or " + conjunction(deep);
        }
        return s;
    }

    private String conjunction(int deep) {
        String s = negation(deep);
        while (random.nextInt(6) == 0) {
            s += " and " + negation(deep);
        }
        return s;
    }

    private String negation(int deep) {
        String s = random.nextInt(8) == 0 ? "not not " : random.nextInt(6) == 0 ? "not " : "";
        s += sum(deep);
        if (random.nextInt(4) == 0) {
            s += blank() + SIGNS[4 + random.nextInt(6)] + blank() + sum(deep);
        }
        return s;
    }

    private String sum(int deep) {
        String s = part(deep);
        while (random.nextInt(2) == 0) {
            s += blank() + SIGNS[random.nextInt(4)] + blank() + part(deep);
        }
        return s;
    }

    private String part(int deep) {
        if (deep > 0 && random.nextInt(4) == 0) {
            return "(" + e(deep - 1) + ")";
        }
        return random.nextBoolean() ? pick(NAMES) : "" + upTo(random.nextInt(3) == 0 ? 9999 : 20);
    }

    private String blank() {
        return random.nextInt(3) == 0 ? " " : "";
    }

    private String loose(int deep) {
        String sign = pick(SIGNS);
        return part(deep) + " " + sign + " not " + part(deep) + " " + pick(SIGNS) + " " + part(deep);
    }

    private String spoilt(String text) {
        StringBuilder s = new StringBuilder(text);
        for (int k = 1 + upTo(2); k > 0; k--) {
            int at = upTo(s.length());
            if (random.nextInt(3) == 0 && s.length() > 0) {
                int to = Math.min(s.length(), at + 1 + upTo(5));
                s.delete(Math.min(at, s.length()), to);
            } else {
                s.insert(at, random.nextBoolean() ? pick(BITS) : " " + pick(BITS) + " ");
            }
        }
        return s.toString();
    }

    private int who() {
        int men = m.count(0);
        return random.nextInt(20) == 0 || men == 0 ? random.nextInt(9) - 2 : random.nextInt(men);
    }

    private int which() {
        int deeds = m.count(1);
        return random.nextInt(20) == 0 || deeds == 0 ? random.nextInt(10) - 2 : random.nextInt(deeds);
    }

    private int days(int low, int high) {
        switch (random.nextInt(8)) {
            case 0:
                return low - 1 + random.nextInt(3);
            case 1:
                return high - 1 + random.nextInt(3);
            case 2:
                return low + random.nextInt(high - low + 1);
            default:
                return low + random.nextInt(Math.min(15, high - low + 1));
        }
    }

    private int odd() {
        int[] odd = {Integer.MIN_VALUE, Integer.MAX_VALUE, -1, 700, 1 << 30};
        return odd[random.nextInt(odd.length)];
    }

    private void call() {
        if (random.nextInt(60) == 0) {
            oddCall();
            return;
        }
        switch (random.nextInt(5)) {
            case 0:
                changeCall();
                break;
            case 1:
                tellCall();
                break;
            case 2:
            case 3:
                aheadCall();
                break;
            default:
                noteCall();
                break;
        }
    }

    private void changeCall() {
        int i = who();
        int d = which();
        boolean is = random.nextBoolean();
        switch (random.nextInt(12)) {
            case 0:
                answer("wear(" + i + ", " + is + ")", x.wear(i, is) ? 1 : 0, m.wear(i, is) ? 1 : 0);
                break;
            case 1:
                int goal = days(0, 99);
                answer("goal(" + i + ", " + goal + ")", x.goal(i, goal) ? 1 : 0, m.goal(i, goal) ? 1 : 0);
                break;
            case 2:
                int times = days(0, 9);
                answer("plan(" + i + ", " + d + ", " + times + ")", x.plan(i, d, times) ? 1 : 0, m.plan(i, d, times) ? 1 : 0);
                break;
            case 3:
            case 4:
                int steps = days(1, 99);
                answer("lend(" + i + ", " + steps + ")", x.lend(i, steps), m.lend(i, steps));
                break;
            case 5:
            case 6:
            case 7:
                int n = days(0, random.nextInt(10) == 0 ? 99 : 6);
                answer("go(" + n + ")", x.go(n), m.go(n));
                break;
            case 8:
            case 9:
                answer("undo()", x.undo(), m.undo());
                break;
            case 10:
                answer("keep()", x.keep(), m.keep());
                break;
            default:
                answer("back()", x.back(), m.back());
                break;
        }
    }

    private void tellCall() {
        int i = who();
        int d = which();
        int what = random.nextInt(16) - 1;
        switch (random.nextInt(9)) {
            case 0:
                answer("has(" + i + ", " + what + ")", x.has(i, what), m.has(i, what));
                break;
            case 1:
                answer("deed(" + d + ", " + what + ")", x.deed(d, what), m.deed(d, what));
                break;
            case 2:
                answer("times(" + i + ", " + d + ")", x.times(i, d), m.times(i, d));
                break;
            case 3:
                int rule = random.nextInt(5) - 1;
                answer("law(" + rule + ", " + i + ")", x.law(rule, i), m.law(rule, i));
                break;
            case 4:
                answer("count(" + what + ")", x.count(what), m.count(what));
                break;
            case 5:
                int letters = Model.letters(pick(random.nextBoolean() ? MEN : DEED_NAMES));
                int kind = random.nextInt(4) - 1;
                answer("named(" + kind + ", " + letters + ")", x.named(kind, letters), m.named(kind, letters));
                break;
            case 6:
                answer("leads()", x.leads(), m.leads());
                break;
            case 7:
                answer("rank(" + i + ")", x.rank(i), m.rank(i));
                break;
            default:
                manCall(i, what < 9 ? what : what - 7);
                break;
        }
    }

    private void manCall(int i, int what) {
        long got;
        long want;
        try {
            got = x.man(i, what);
        } catch (IndexOutOfBoundsException e) {
            got = -1001;
        } catch (NoSuchElementException e) {
            got = -1002;
        }
        try {
            want = m.man(i, what);
        } catch (IndexOutOfBoundsException e) {
            want = -1001;
        } catch (NoSuchElementException e) {
            want = -1002;
        }
        answer("man(" + i + ", " + what + ")", got, want);
    }

    private void aheadCall() {
        int i = who();
        int what = random.nextInt(5) == 0 ? random.nextInt(8) - 1 : random.nextInt(2);
        int n = days(0, 60);
        switch (random.nextInt(16)) {
            case 0:
            case 1:
                what = random.nextInt(5);
                answer("ahead(" + i + ", " + n + ", " + what + ")", x.ahead(i, n, what), m.ahead(i, n, what));
                break;
            case 2:
                n = days(1, 99);
                answer("reaches(" + i + ", " + n + ")", x.reaches(i, n), m.reaches(i, n));
                break;
            case 3:
                n = days(0, 99);
                answer("longest(" + i + ", " + n + ")", x.longest(i, n), m.longest(i, n));
                break;
            case 4:
                n = random.nextInt(4) == 0 ? days(1, 60) : days(1, 8);
                answer("moves(" + i + ", " + n + ", " + what + ")", x.moves(i, n, what), m.moves(i, n, what));
                break;
            case 5:
                what = random.nextInt(7) - 1;
                answer("deeds(" + i + ", " + what + ")", x.deeds(i, what), m.deeds(i, what));
                break;
            case 6:
                answer("winner(" + what + ")", x.winner(what), m.winner(what));
                break;
            case 7:
                answer("needs(" + i + ")", x.needs(i), m.needs(i));
                break;
            case 8:
                int o = who();
                answer("rests(" + i + ", " + o + ")", x.rests(i, o), m.rests(i, o));
                break;
            case 9:
                int p = who();
                int k = random.nextInt(5) - 1;
                answer("rest(" + i + ", " + p + ", " + k + ")", x.rest(i, p, k), m.rest(i, p, k));
                break;
            case 10:
                n = days(0, 99);
                answer("falls(" + i + ", " + n + ")", x.falls(i, n), m.falls(i, n));
                break;
            case 11:
                answer("earns(" + i + ", " + n + ", " + what + ")", x.earns(i, n, what), m.earns(i, n, what));
                break;
            case 12:
                answer("falseOnes(" + i + ", " + what + ")", x.falseOnes(i, what), m.falseOnes(i, what));
                break;
            case 13:
                answer("habit(" + i + ")", x.habit(i), m.habit(i));
                break;
            case 14:
                n = days(1, 60);
                answer("breaks(" + i + ", " + n + ")", x.breaks(i, n), m.breaks(i, n));
                break;
            default:
                what = random.nextInt(8) - 1;
                i = what == 2 ? i : random.nextInt(20) == 0 ? 1 : 0;
                answer("tried(" + what + ", " + i + ", " + n + ")", x.tried(what, i, n), m.tried(what, i, n));
                break;
        }
    }

    private void noteCall() {
        int i = who();
        int d = which();
        switch (random.nextInt(7)) {
            case 0:
            case 1:
                int days = days(1, 40);
                int steps = random.nextInt(10) == 0 ? days(0, 99999) : days * (20 + random.nextInt(100));
                boolean least = random.nextBoolean();
                answer("note(" + days + ", " + i + ", " + steps + ", " + least + ")", x.note(days, i, steps, least),
                    m.note(days, i, steps, least));
                break;
            case 2:
                int note = random.nextInt(m.count(11) + 2) - 1;
                answer("out(" + note + ")", x.out(note), m.out(note));
                break;
            case 3:
                int n = random.nextInt(m.count(11) + 4) - 2;
                answer("known(" + n + ")", x.known(n) ? 1 : 0, m.known(n) ? 1 : 0);
                break;
            case 4:
            case 5:
                answer("fits(" + i + ", " + d + ")", x.fits(i, d), m.fits(i, d));
                break;
            default:
                int seed = random.nextInt(10) == 0 ? odd() : random.nextInt(100000);
                int far = days(1, 60);
                int row = days(0, random.nextInt(4) == 0 ? 99 : 4);
                answer("chance(" + seed + ", " + far + ", " + i + ", " + row + ")", x.chance(seed, far, i, row),
                    m.chance(seed, far, i, row));
                break;
        }
    }

    private void oddCall() {
        int o = odd();
        int p = odd();
        switch (random.nextInt(12)) {
            case 0:
                tell();
                break;
            case 1:
                feed(new int[] {o, p, o, p, o});
                break;
            case 2:
                answer("text(" + o + ")", x.text(o), m.text(o));
                break;
            case 3:
                answer("fault(" + o + ")", x.fault(o), m.fault(o));
                break;
            case 4:
                manCall(o, p);
                break;
            case 5:
                answer("go(" + o + ")", x.go(o), m.go(o));
                break;
            case 6:
                answer("tried(" + o + ", " + p + ", 1)", x.tried(o, p, 1), m.tried(o, p, 1));
                break;
            case 7:
                answer("rest(0, 1, " + o + ")", x.rest(0, 1, o), m.rest(0, 1, o));
                break;
            case 8:
                answer("known(" + o + ")", x.known(o) ? 1 : 0, m.known(o) ? 1 : 0);
                break;
            case 9:
                answer("lend(0, " + o + ")", x.lend(0, o), m.lend(0, o));
                break;
            case 10:
                answer("plan(0, " + o + ", 3)", x.plan(0, o, 3) ? 1 : 0, m.plan(0, o, 3) ? 1 : 0);
                break;
            default:
                answer("law(" + o + ", " + p + ")", x.law(o, p), m.law(o, p));
                break;
        }
    }
}

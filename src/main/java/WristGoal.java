import java.util.Arrays;
import java.util.NoSuchElementException;

/**
 * People with a daily goal of steps, their deeds, plans, bet and laws, told as a text and walked day by day.
 * The numbered promises of DOC.md say what each call answers.
 */
public final class WristGoal {
    public static final int NONE = -1;

    private static final int MEN = 5;
    private static final int DEEDS = 6;
    private static final int PLANS = 12;
    private static final int KNOTS = 64;
    private static final int OPEN_AT_ONCE = 8;
    private static final int NOTES = 24;
    private static final int CHANGES = 20;
    private static final int TAPE = 700;

    /** The answer for what is asked rightly, but isn't found. */
    private static final int NOT_FOUND = -2;
    private static final int BY_NONE = -3;

    private static final int LAST_DAY = 9900;
    private static final int MOST_LENT = 999;
    private static final int MOST_TIMES = 9;
    private static final int MOST_GOAL = 99;
    /** From so much rain of a hundred on, a day ahead counts as wet. */
    private static final int WET_AS_IT_GOES = 50;
    private static final int CHOICES = 5;
    private static final int TRIED_DEEDS = 4;

    private static final int NO_FAULT = 0;
    private static final int MISPLACED = 1;
    private static final int TOO_MUCH = 2;
    private static final int TOLD_ALREADY = 3;
    private static final int NOT_TOLD = 4;

    private static final int PUSH_RULE = 0;
    private static final int HABIT_RULE = 1;
    private static final int FAIR_RULE = 2;
    private static final int RULES = 3;

    private final Tokens tokens = new Tokens();
    private final Reader reader = new Reader(tokens);
    private Told told = new Told();
    /** A text is read into this one, so that a fault leaves what is told as it was. */
    private Told draft = new Told();
    private final World now = new World();
    private final World image = new World();
    /** The one world in which days ahead are walked, used again by each call. */
    private final World trial = new World();
    private final Notes notes = new Notes();
    private final Changes changes = new Changes();
    /** Who wins for each pair of choices of two people. */
    private final int[] further = new int[CHOICES * CHOICES];
    /** How often each of the first deeds is done more, and behind them the minutes. */
    private final int[] fewest = new int[TRIED_DEEDS + 1];
    private boolean imageKept;

    public WristGoal() {
        imageKept = false;
    }

    public int feed(int a, int b, int c, int d, int e) {
        if (!tokens.hasRoom()) {
            return NONE;
        }
        tokens.append(a);
        tokens.append(b);
        tokens.append(c);
        tokens.append(d);
        tokens.append(e);
        return tokens.held;
    }

    public int text(int n) {
        if (n < 0 || n > tokens.held) {
            return NOT_FOUND;
        }
        int lines = reader.readText(draft, n);
        tokens.held = 0;
        if (lines == NONE) {
            return NONE;
        }
        Told before = told;
        told = draft;
        draft = before;
        now.start(told);
        imageKept = false;
        notes.clear();
        changes.size = 0;
        return lines;
    }

    public int fault(int what) {
        if (what == 0) {
            return reader.fault;
        }
        return what == 1 ? reader.place : NONE;
    }

    public int named(int what, int letters) {
        if (what == 0) {
            return placeOf(letters, told.manName, told.men);
        }
        return what == 1 ? placeOf(letters, told.deedName, told.deeds) : NONE;
    }

    public int man(int man, int what) throws IndexOutOfBoundsException, NoSuchElementException {
        if (!isMan(man)) {
            throw new IndexOutOfBoundsException("no such person");
        }
        Person p = now.people[man];
        switch (what) {
            case 0:
                return p.goal;
            case 1:
                return p.base;
            case 2:
                return told.push[man];
            case 3:
                return p.row;
            case 4:
                return p.broken;
            case 5:
                return p.sum;
            case 6:
                return p.walked;
            case 7:
                return p.steps;
            default:
                throw new NoSuchElementException("no such what");
        }
    }

    public int has(int man, int what) {
        if (!isMan(man)) {
            return NONE;
        }
        Person p = now.people[man];
        switch (what) {
            case 0:
                return p.band ? 1 : 0;
            case 1:
                return p.lent;
            case 2:
                return p.pence;
            case 3:
                return p.won;
            default:
                return NONE;
        }
    }

    public int deed(int deed, int what) {
        if (!isDeed(deed)) {
            return NONE;
        }
        switch (what) {
            case 0:
                return told.real[deed];
            case 1:
                return told.counted[deed];
            case 2:
                return told.minutes[deed];
            default:
                return NONE;
        }
    }

    public int times(int man, int deed) {
        return isMan(man) && isDeed(deed) ? now.people[man].times[deed] : NONE;
    }

    public long law(int what, int man) {
        if (!isWithin(what, 0, RULES - 1) || !isMan(man) || !told.laws.isTold(what)) {
            return Long.MIN_VALUE;
        }
        Person p = now.people[man];
        now.setNames(told.laws, p, p.stepsOn(p.base, told));
        return told.laws.workOut(what) ? told.laws.answer : Long.MIN_VALUE;
    }

    public boolean wear(int man, boolean is) {
        if (!isMan(man) || now.people[man].band == is) {
            return false;
        }
        changes.add(Changes.BAND, man, 0, is ? 0 : 1);
        now.people[man].band = is;
        return true;
    }

    public boolean goal(int man, int goal) {
        if (!isMan(man) || !isWithin(goal, 0, MOST_GOAL) || now.people[man].goal == goal) {
            return false;
        }
        changes.add(Changes.GOAL, man, 0, now.people[man].goal);
        now.people[man].goal = goal;
        return true;
    }

    public boolean plan(int man, int deed, int times) {
        if (!isMan(man) || !isDeed(deed) || !isWithin(times, 0, MOST_TIMES)) {
            return false;
        }
        int before = now.people[man].times[deed];
        if (before == times) {
            return false;
        }
        changes.add(Changes.PLAN, man, deed, before);
        now.people[man].times[deed] = times;
        return true;
    }

    public int lend(int man, int steps) {
        if (!isMan(man) || !isWithin(steps, 1, 99)) {
            return NONE;
        }
        Person p = now.people[man];
        if (p.lent + steps > MOST_LENT) {
            return NONE;
        }
        changes.add(Changes.LENT, man, 0, p.lent);
        p.lent += steps;
        return p.lent;
    }

    public int go(int n) {
        if (!isWithin(n, 0, 99) || now.day + n > LAST_DAY) {
            return NONE;
        }
        for (int k = 0; k < n; k++) {
            now.passDay(told, now.drawsWet(told.rain));
        }
        if (n > 0) {
            changes.size = 0;
        }
        return now.day;
    }

    public int ahead(int man, int n, int what) {
        if (!isMan(man) || !isWithin(n, 0, 60) || !isWithin(what, 0, 3)) {
            return NONE;
        }
        Person then = lookAhead(man);
        passAsItGoes(n);
        switch (what) {
            case 0:
                return then.steps - now.people[man].steps;
            case 1:
                return then.walked - now.people[man].walked;
            case 2:
                return then.row;
            default:
                return then.base;
        }
    }

    public int reaches(int man, int n) {
        if (!isMan(man) || !isWithin(n, 1, 99)) {
            return NONE;
        }
        Person then = lookAhead(man);
        for (int days = 1; days <= n; days++) {
            passAsItGoes(1);
            if (then.row > 0) {
                return days;
            }
        }
        return NOT_FOUND;
    }

    public int longest(int man, int n) {
        if (!isMan(man) || !isWithin(n, 0, 99)) {
            return NONE;
        }
        Person then = lookAhead(man);
        int most = then.row;
        for (int k = 0; k < n; k++) {
            passAsItGoes(1);
            most = Math.max(most, then.row);
        }
        return most;
    }

    public int moves(int man, int n, int what) {
        if (!isMan(man) || !isWithin(n, 1, 60) || !isWithin(what, 0, 1)) {
            return NONE;
        }
        int best = 0;
        int most = NONE;
        for (int goal = 0; goal <= MOST_GOAL; goal++) {
            Person then = lookAhead(man);
            then.goal = goal;
            passAsItGoes(n);
            int walked = then.walked - now.people[man].walked;
            if (walked > most) {
                most = walked;
                best = goal;
            }
        }
        return what == 0 ? best : most;
    }

    public int deeds(int man, int what) {
        if (!isMan(man) || !isWithin(what, 0, TRIED_DEEDS)) {
            return NONE;
        }
        if (what < TRIED_DEEDS && what >= told.deeds) {
            return NOT_FOUND;
        }
        return findFewest(now.people[man]) ? fewest[what] : BY_NONE;
    }

    public int leads() {
        return now.greatest(told.men);
    }

    public int winner(int what) {
        if (!isWithin(what, 0, 1) || told.men == 0) {
            return NONE;
        }
        if (what == 1) {
            return daysToPot();
        }
        lookAtAll();
        passAsItGoes(daysToPot());
        return trial.winner;
    }

    public int needs(int man) {
        if (!isMan(man)) {
            return NONE;
        }
        return told.laws.mindsOthers() ? neededOneByOne(man) : neededByHalves(man);
    }

    public int rests(int one, int other) {
        if (!isMan(one) || !isMan(other) || one == other) {
            return NONE;
        }
        chooseFurther(one, other);
        int many = 0;
        for (int pair = 0; pair < further.length; pair++) {
            if (isRest(one, other, pair)) {
                many++;
            }
        }
        return many;
    }

    public int rest(int one, int other, int k) {
        if (!isMan(one) || !isMan(other) || one == other || k < 0) {
            return NONE;
        }
        chooseFurther(one, other);
        int left = k;
        for (int pair = 0; pair < further.length; pair++) {
            if (isRest(one, other, pair)) {
                if (left == 0) {
                    return 10 * (pair / CHOICES) + pair % CHOICES;
                }
                left--;
            }
        }
        return NOT_FOUND;
    }

    public int rank(int man) {
        if (!isMan(man)) {
            return NONE;
        }
        int own = now.people[man].sum;
        int ahead = 0;
        for (int i = 0; i < told.men; i++) {
            int sum = now.people[i].sum;
            if (sum > own || sum == own && i < man) {
                ahead++;
            }
        }
        return ahead;
    }

    public int falls(int man, int n) {
        if (!isMan(man) || !isWithin(n, 0, 99)) {
            return NONE;
        }
        Person then = lookAhead(man);
        passAsItGoes(n);
        return then.broken - now.people[man].broken;
    }

    public int earns(int man, int n, int what) {
        if (!isMan(man) || !isWithin(n, 0, 60) || !isWithin(what, 0, 1)) {
            return NONE;
        }
        lookAtAll();
        passAsItGoes(n);
        Person first = now.people[man];
        Person then = trial.people[man];
        return what == 0 ? then.pence - first.pence : then.won - first.won;
    }

    public int falseOnes(int man, int what) {
        if (!isMan(man) || !isWithin(what, 0, 1)) {
            return NONE;
        }
        Person p = now.people[man];
        int counted = 0;
        int untrue = 0;
        for (int d = 0; d < told.deeds; d++) {
            counted += p.times[d] * told.counted[d];
            untrue += p.times[d] * Math.max(0, told.counted[d] - told.real[d]);
        }
        int common = commonDivisor(untrue, counted);
        if (common == 0) {
            return what;
        }
        return (what == 0 ? untrue : counted) / common;
    }

    public int habit(int man) {
        if (!isMan(man)) {
            return NONE;
        }
        Person then = lookAhead(man);
        for (int days = 0; days < 99; days++) {
            if (then.base >= then.goal) {
                return days;
            }
            passAsItGoes(1);
        }
        return then.base >= then.goal ? 99 : NOT_FOUND;
    }

    public int breaks(int man, int n) {
        if (!isMan(man) || !isWithin(n, 1, 60)) {
            return NONE;
        }
        Person then = lookAhead(man);
        passAsItGoes(n);
        int whole = then.walked;
        lookAhead(man);
        then.band = false;
        passAsItGoes(1);
        then.band = now.people[man].band;
        passAsItGoes(n - 1);
        return Math.max(0, whole - then.walked);
    }

    public int note(int days, int man, int steps, boolean atLeast) {
        if (!isWithin(days, 1, 40) || !isMan(man) || !isWithin(steps, 0, 99999)) {
            return NONE;
        }
        return notes.add(days, man, steps, atLeast);
    }

    public int out(int note) {
        return isWithin(note, 0, notes.size - 1) ? notes.addStrike(note) : NONE;
    }

    public boolean known(int n) {
        if (!isWithin(n, NONE, notes.size)) {
            return false;
        }
        notes.knownBy = n;
        return true;
    }

    public int fits(int man, int deed) {
        if (!isMan(man) || !isDeed(deed)) {
            return NONE;
        }
        notes.findStruck();
        int bits = 0;
        for (int times = 0; times <= MOST_TIMES; times++) {
            if (agreesWithNotes(man, deed, times)) {
                bits |= 1 << times;
            }
        }
        return bits;
    }

    public int chance(int seed, int n, int man, int row) {
        if (seed < 0 || !isWithin(n, 1, 60) || !isMan(man) || !isWithin(row, 0, 99)) {
            return NONE;
        }
        long number = seed;
        int many = 0;
        for (int draw = 0; draw < 10; draw++) {
            Person then = lookAhead(man);
            trial.number = number;
            for (int k = 0; k < n; k++) {
                trial.passDay(told, trial.drawsWet(told.rain));
            }
            number = trial.number;
            if (then.row >= row) {
                many++;
            }
        }
        return many;
    }

    public int tried(int what, int i, int n) {
        if (!isWithin(what, 0, 5) || !isWithin(n, 0, 60) || !(what == 2 ? isMan(i) : i == 0)) {
            return NONE;
        }
        lookAtAll();
        boolean wet = isWetAsItGoes() && what != 1;
        if (what == 2) {
            trial.gone = i;
        }
        trial.pushless = what == 5;
        for (int m = 0; m < told.men; m++) {
            Person p = trial.people[m];
            p.band = p.band || what == 3;
            if (what == 4) {
                Arrays.fill(p.times, 0);
            }
        }
        for (int k = 0; k < n; k++) {
            trial.passDay(told, wet);
        }
        return trial.inAll(World.WALKED, told.men) - now.inAll(World.WALKED, told.men);
    }

    public int undo() {
        if (changes.size == 0) {
            return NONE;
        }
        changes.takeBack(now);
        return changes.size;
    }

    public int keep() {
        image.copyFrom(now);
        imageKept = true;
        return now.day;
    }

    public int back() {
        if (!imageKept) {
            return NONE;
        }
        now.copyFrom(image);
        changes.size = 0;
        return now.day;
    }

    public int count(int what) {
        switch (what) {
            case 0:
                return told.men;
            case 1:
                return told.deeds;
            case 2:
                return told.plans;
            case 3:
                return told.laws.knots;
            case 4:
                return now.day;
            case 5:
                return now.wetDays;
            case 6:
                return now.inAll(World.WALKED, told.men);
            case 7:
                return now.inAll(World.STEPS, told.men);
            case 8:
                return now.inAll(World.PENCE, told.men);
            case 9:
                return now.inAll(World.WON, told.men);
            case 10:
                return now.inAll(World.BROKEN, told.men);
            case 11:
                return notes.size;
            case 12:
                return notes.firstKnown();
            case 13:
                return changes.size;
            default:
                return NONE;
        }
    }

    private boolean isMan(int man) {
        return isWithin(man, 0, told.men - 1);
    }

    private boolean isDeed(int deed) {
        return isWithin(deed, 0, told.deeds - 1);
    }

    private static boolean isWithin(int x, int low, int high) {
        return x >= low && x <= high;
    }

    private static int placeOf(int name, int[] names, int many) {
        for (int i = 0; i < many && i < names.length; i++) {
            if (names[i] == name) {
                return i;
            }
        }
        return NONE;
    }

    private static int commonDivisor(int a, int b) {
        int one = a;
        int other = b;
        // Each turn at least halves the product, so 64 turns are more than two ints need.
        for (int turn = 0; turn < 64 && other != 0; turn++) {
            int left = one % other;
            one = other;
            other = left;
        }
        return one;
    }

    private boolean isWetAsItGoes() {
        return told.rain >= WET_AS_IT_GOES;
    }

    /** The trial world as the world is now; others are left out where they can't change what this person does. */
    private Person lookAhead(int man) {
        trial.copyFrom(now);
        trial.only = told.laws.mindsOthers() ? NONE : man;
        return trial.people[man];
    }

    private void lookAtAll() {
        trial.copyFrom(now);
    }

    private void passAsItGoes(int n) {
        boolean wet = isWetAsItGoes();
        for (int k = 0; k < n; k++) {
            trial.passDay(told, wet);
        }
    }

    private int daysToPot() {
        return told.betDays > 0 ? told.betDays - now.day % told.betDays : 1;
    }

    /** Walks the days by itself: through passAsItGoes its calls would go more than eight deep. */
    private boolean winsWith(int man, int more) {
        lookAtAll();
        trial.people[man].sum += more;
        boolean wet = isWetAsItGoes();
        int days = daysToPot();
        for (int k = 0; k < days; k++) {
            trial.passDay(told, wet);
        }
        return trial.winner == man;
    }

    private int neededOneByOne(int man) {
        for (int more = 0; more <= 999; more++) {
            if (winsWith(man, more)) {
                return more;
            }
        }
        return NOT_FOUND;
    }

    /** Where no law looks at sums, more of a sum never hurts: the border can be found by halves. */
    private int neededByHalves(int man) {
        if (!winsWith(man, 999)) {
            return NOT_FOUND;
        }
        int low = 0;
        int high = 999;
        for (int turn = 0; turn < 12 && low < high; turn++) {
            int middle = (low + high) / 2;
            if (winsWith(man, middle)) {
                high = middle;
            } else {
                low = middle + 1;
            }
        }
        return high;
    }

    private void chooseFurther(int one, int other) {
        for (int pair = 0; pair < further.length; pair++) {
            lookAtAll();
            trial.people[one].lent += 10 * (pair / CHOICES);
            trial.people[other].lent += 10 * (pair % CHOICES);
            passAsItGoes(daysToPot());
            further[pair] = trial.winner;
        }
    }

    private int gain(int man, int choice, int pair) {
        return (further[pair] == man ? told.pot : 0) - 3 * choice;
    }

    private boolean isRest(int one, int other, int pair) {
        int ones = pair / CHOICES;
        int others = pair % CHOICES;
        for (int choice = 0; choice < CHOICES; choice++) {
            if (gain(one, choice, choice * CHOICES + others) > gain(one, ones, pair)
                    || gain(other, choice, ones * CHOICES + choice) > gain(other, others, pair)) {
                return false;
            }
        }
        return true;
    }

    private boolean agreesWithNotes(int man, int deed, int times) {
        trial.start(told);
        trial.people[man].times[deed] = times;
        int last = notes.lastDay();
        for (int days = 1; days <= last; days++) {
            passAsItGoes(1);
            if (!notes.agree(days, trial)) {
                return false;
            }
        }
        return true;
    }

    /** Looks through all ways in the order of the deeds, so that the first of several stays. */
    private boolean findFewest(Person p) {
        int ways = 1;
        int tried = Math.min(told.deeds, TRIED_DEEDS);
        for (int d = 0; d < tried; d++) {
            ways *= CHOICES;
        }
        int lacks = p.goal - p.base - told.inPlan(told.counted, p.times);
        int best = NONE;
        int least = 0;
        for (int way = 0; way < ways; way++) {
            int minutes = amount(way, tried, told.minutes);
            if ((best == NONE || minutes < least) && amount(way, tried, told.counted) >= lacks) {
                best = way;
                least = minutes;
            }
        }
        if (best == NONE) {
            return false;
        }
        int left = best;
        for (int d = tried - 1; d >= 0; d--) {
            fewest[d] = left % CHOICES;
            left /= CHOICES;
        }
        fewest[TRIED_DEEDS] = least;
        return true;
    }

    /** A way's digits are how often each deed is done, the first deed's digit the highest. */
    private static int amount(int way, int tried, int[] each) {
        int left = way;
        int sum = 0;
        for (int d = tried - 1; d >= 0; d--) {
            sum += left % CHOICES * each[d];
            left /= CHOICES;
        }
        return sum;
    }

    /** The tape, and the tokens of the text on it. */
    private static final class Tokens {
        static final int MAN = 0;
        static final int DEED = 1;
        static final int PLAN = 2;
        static final int BET = 3;
        static final int PAY = 4;
        static final int RAIN = 5;
        static final int SEED = 6;
        static final int LAW = 7;
        static final int PUSH = 8;
        static final int FAIR = 10;
        static final int OR = 11;
        static final int AND = 12;
        static final int NOT = 13;
        static final int BASE = 14;
        static final int BEHIND = 19;
        static final int DAY = 20;
        static final int WORDS = 21;
        static final int LESS = 21;
        static final int AT_MOST = 22;
        static final int ALIKE = 23;
        static final int UNLIKE = 24;
        static final int AT_LEAST = 25;
        static final int MORE = 26;
        static final int PLUS = 27;
        static final int MINUS = 28;
        static final int TIMES = 29;
        static final int DIVIDE = 30;
        static final int OPEN = 31;
        static final int CLOSE = 32;
        static final int LINE_END = 33;
        static final int NUMBER = 34;
        static final int NAME = 35;
        static final int END = 36;
        static final int NO_TOKEN = 37;

        /** In the order of the kinds above. */
        private static final String LANGUAGE =
                "man deed plan bet pay rain seed law push habit fair or and not base goal steps row lacks behind day ";
        private static final int MOST_LETTERS = 6;
        /** Above every bound of the language, and ten times it is still an int. */
        private static final int HUGE = 1000000;

        private final byte[] tape = new byte[TAPE];
        private final int[] language = new int[WORDS];
        int held;
        int length;
        private int at;
        int kind;
        int place;
        /** A number's value, or a word's letters in 5 bits each. */
        int value;

        Tokens() {
            int word = 0;
            int letters = 0;
            for (int i = 0; i < LANGUAGE.length() && word < WORDS; i++) {
                if (LANGUAGE.charAt(i) == ' ') {
                    word++;
                    letters = 0;
                } else {
                    language[word] |= letterBits(LANGUAGE.charAt(i), letters);
                    letters++;
                }
            }
        }

        boolean hasRoom() {
            return held + 20 <= TAPE;
        }

        void append(int four) {
            for (int shift = 24; shift >= 0 && held < TAPE; shift -= 8) {
                tape[held] = (byte) (four >>> shift);
                held++;
            }
        }

        void begin(int n) {
            length = Math.min(n, TAPE);
            at = 0;
            next();
        }

        void next() {
            while (at < length && (tape[at] == 32 || tape[at] == 10)) {
                at++;
            }
            place = at;
            value = 0;
            if (at >= length) {
                kind = END;
            } else if (isLetter(tape[at])) {
                readWord();
            } else if (isDigit(tape[at])) {
                readNumber();
            } else {
                readSign();
            }
        }

        private static boolean isLetter(int sign) {
            return sign >= 'a' && sign <= 'z';
        }

        private static boolean isDigit(int sign) {
            return sign >= '0' && sign <= '9';
        }

        private static int letterBits(int letter, int ahead) {
            return ahead < MOST_LETTERS ? (letter - 'a' + 1) << (25 - 5 * ahead) : 0;
        }

        private void readWord() {
            int letters = 0;
            while (at < length && isLetter(tape[at])) {
                value |= letterBits(tape[at], letters);
                letters++;
                at++;
            }
            kind = NAME;
            if (letters > MOST_LETTERS) {
                kind = NO_TOKEN;
                return;
            }
            int word = placeOf(value, language, WORDS);
            if (word != NONE) {
                kind = word;
            }
        }

        private void readNumber() {
            while (at < length && isDigit(tape[at])) {
                value = Math.min(HUGE, value * 10 + tape[at] - '0');
                at++;
            }
            kind = NUMBER;
        }

        private void readSign() {
            int sign = tape[at];
            at++;
            switch (sign) {
                case '<':
                    kind = takes('=') ? AT_MOST : takes('>') ? UNLIKE : LESS;
                    break;
                case '>':
                    kind = takes('=') ? AT_LEAST : MORE;
                    break;
                case '=':
                    kind = ALIKE;
                    break;
                case '+':
                    kind = PLUS;
                    break;
                case '-':
                    kind = MINUS;
                    break;
                case '*':
                    kind = TIMES;
                    break;
                case '/':
                    kind = DIVIDE;
                    break;
                case '(':
                    kind = OPEN;
                    break;
                case ')':
                    kind = CLOSE;
                    break;
                case ';':
                    kind = LINE_END;
                    break;
                default:
                    kind = NO_TOKEN;
                    break;
            }
        }

        private boolean takes(int sign) {
            if (at < length && tape[at] == sign) {
                at++;
                return true;
            }
            return false;
        }
    }

    /** Reads the lines of a text. Each part answers whether it went well; else fault and place are set. */
    private static final class Reader {
        private final Tokens tokens;
        private final Formula formula = new Formula();
        /** Whether bet, pay, rain, seed stood in the text. */
        private final boolean[] said = new boolean[4];
        private Told told;
        private int number;
        int fault = NO_FAULT;
        int place = NONE;

        Reader(Tokens tokens) {
            this.tokens = tokens;
        }

        int readText(Told draft, int n) {
            told = draft;
            told.clear();
            for (int i = 0; i < said.length; i++) {
                said[i] = false;
            }
            fault = NO_FAULT;
            place = NONE;
            tokens.begin(n);
            int lines = 0;
            for (int left = n; left > 0 && tokens.kind != Tokens.END; left--) {
                if (!readLine() || !readLineEnd()) {
                    return NONE;
                }
                lines++;
            }
            return lines;
        }

        private boolean fail(int what) {
            fault = what;
            place = tokens.place;
            return false;
        }

        private boolean readLineEnd() {
            if (tokens.kind != Tokens.LINE_END) {
                return fail(MISPLACED);
            }
            tokens.next();
            return true;
        }

        private boolean readLine() {
            switch (tokens.kind) {
                case Tokens.MAN:
                    return readMan();
                case Tokens.DEED:
                    return readDeed();
                case Tokens.PLAN:
                    return readPlan();
                case Tokens.BET:
                    return readBet();
                case Tokens.PAY:
                    return readPay();
                case Tokens.RAIN:
                    return readRain();
                case Tokens.SEED:
                    return readSeed();
                case Tokens.LAW:
                    return readLaw();
                default:
                    return fail(MISPLACED);
            }
        }

        private boolean readMan() {
            int i = told.men;
            if (i >= MEN) {
                return fail(TOO_MUCH);
            }
            tokens.next();
            if (!readNewName(told.manName, i) || !readNumber(0, MOST_GOAL)) {
                return false;
            }
            told.goal[i] = number;
            if (!readNumber(0, 99)) {
                return false;
            }
            told.base[i] = number;
            if (!readNumber(0, 99)) {
                return false;
            }
            told.push[i] = number;
            told.men++;
            return true;
        }

        private boolean readDeed() {
            int i = told.deeds;
            if (i >= DEEDS) {
                return fail(TOO_MUCH);
            }
            tokens.next();
            if (!readNewName(told.deedName, i) || !readNumber(0, 20)) {
                return false;
            }
            told.real[i] = number;
            if (!readNumber(0, 20)) {
                return false;
            }
            told.counted[i] = number;
            if (!readNumber(0, 9)) {
                return false;
            }
            told.minutes[i] = number;
            told.deeds++;
            return true;
        }

        private boolean readPlan() {
            if (told.plans >= PLANS) {
                return fail(TOO_MUCH);
            }
            tokens.next();
            int man = findName(told.manName, told.men);
            if (man == NONE) {
                return false;
            }
            tokens.next();
            int deed = findName(told.deedName, told.deeds);
            if (deed == NONE) {
                return false;
            }
            if (told.times[man * DEEDS + deed] != 0) {
                return fail(TOLD_ALREADY);
            }
            tokens.next();
            if (!readNumber(1, MOST_TIMES)) {
                return false;
            }
            told.times[man * DEEDS + deed] = number;
            told.plans++;
            return true;
        }

        private boolean readBet() {
            if (!readOnce() || !readNumber(0, 999)) {
                return false;
            }
            told.pot = number;
            if (!readNumber(1, 14)) {
                return false;
            }
            told.betDays = number;
            return true;
        }

        private boolean readPay() {
            if (!readOnce() || !readNumber(0, 99)) {
                return false;
            }
            told.pence = number;
            if (!readNumber(0, 999)) {
                return false;
            }
            told.payFrom = number;
            return true;
        }

        private boolean readRain() {
            if (!readOnce() || !readNumber(0, 100)) {
                return false;
            }
            told.rain = number;
            return true;
        }

        private boolean readSeed() {
            if (!readOnce() || !readNumber(0, 99999)) {
                return false;
            }
            told.seed = number;
            return true;
        }

        private boolean readLaw() {
            tokens.next();
            if (!isWithin(tokens.kind, Tokens.PUSH, Tokens.FAIR)) {
                return fail(MISPLACED);
            }
            int rule = tokens.kind - Tokens.PUSH;
            if (told.laws.isTold(rule)) {
                return fail(TOLD_ALREADY);
            }
            tokens.next();
            int wrong = formula.readInto(told.laws, rule, tokens);
            return wrong == NO_FAULT || fail(wrong);
        }

        private boolean readOnce() {
            int which = tokens.kind - Tokens.BET;
            if (!isWithin(which, 0, said.length - 1)) {
                return fail(MISPLACED);
            }
            if (said[which]) {
                return fail(TOLD_ALREADY);
            }
            said[which] = true;
            tokens.next();
            return true;
        }

        private boolean readNumber(int low, int high) {
            if (tokens.kind != Tokens.NUMBER) {
                return fail(MISPLACED);
            }
            if (!isWithin(tokens.value, low, high)) {
                return fail(TOO_MUCH);
            }
            number = tokens.value;
            tokens.next();
            return true;
        }

        private boolean readNewName(int[] names, int many) {
            if (tokens.kind != Tokens.NAME) {
                return fail(MISPLACED);
            }
            if (placeOf(tokens.value, names, many) != NONE) {
                return fail(TOLD_ALREADY);
            }
            if (many < names.length) {
                names[many] = tokens.value;
            }
            tokens.next();
            return true;
        }

        private int findName(int[] names, int many) {
            if (tokens.kind != Tokens.NAME) {
                fail(MISPLACED);
                return NONE;
            }
            int which = placeOf(tokens.value, names, many);
            if (which == NONE) {
                fail(NOT_TOLD);
            }
            return which;
        }
    }

    /** Reads an E; signs wait in a row until what binds them more loosely comes, so nothing recurs. */
    private static final class Formula {
        private static final int HIGHEST_NUMBER = 9999;
        private final int[] waiting = new int[KNOTS + OPEN_AT_ONCE];
        private int waits;
        /** For each open '(' whether its present comparison has its sign already. */
        private final boolean[] compared = new boolean[OPEN_AT_ONCE + 1];
        private int open;
        private boolean wantsPart;
        private boolean notMayCome;

        /** The fault of the token that stands now, if any. */
        int readInto(Laws laws, int rule, Tokens tokens) {
            waits = 0;
            open = 0;
            compared[0] = false;
            wantsPart = true;
            notMayCome = true;
            laws.begin(rule);
            for (int left = tokens.length; left > 0 && canStand(tokens.kind); left--) {
                if (isTooMuch(tokens.kind, tokens.value, laws.knots)) {
                    return TOO_MUCH;
                }
                if (isValue(tokens.kind)) {
                    laws.knots++;
                    laws.add(tokens.kind, tokens.value);
                    wantsPart = false;
                } else if (tokens.kind == Tokens.OPEN) {
                    takeOpen();
                } else if (tokens.kind == Tokens.CLOSE) {
                    takeClose(laws);
                } else {
                    laws.knots++;
                    takeSign(tokens.kind, laws);
                }
                tokens.next();
            }
            if (wantsPart || open > 0) {
                return MISPLACED;
            }
            release(laws, 1);
            laws.end(rule);
            return NO_FAULT;
        }

        private boolean canStand(int kind) {
            if (wantsPart) {
                return isValue(kind) || kind == Tokens.OPEN || kind == Tokens.NOT && notMayCome;
            }
            if (kind == Tokens.CLOSE) {
                return open > 0;
            }
            return kind == Tokens.OR || kind == Tokens.AND || isWithin(kind, Tokens.PLUS, Tokens.DIVIDE)
                    || isComparison(kind) && !compared[open];
        }

        private static boolean isValue(int kind) {
            return kind == Tokens.NUMBER || isWithin(kind, Tokens.BASE, Tokens.DAY);
        }

        private static boolean isComparison(int kind) {
            return isWithin(kind, Tokens.LESS, Tokens.MORE);
        }

        private boolean isTooMuch(int kind, int value, int knots) {
            if (kind == Tokens.OPEN) {
                return open >= OPEN_AT_ONCE;
            }
            return kind != Tokens.CLOSE && (knots >= KNOTS || kind == Tokens.NUMBER && value > HIGHEST_NUMBER);
        }

        private void takeOpen() {
            open++;
            compared[open] = false;
            hold(Tokens.OPEN);
            notMayCome = true;
        }

        private void takeClose(Laws laws) {
            release(laws, 1);
            waits = Math.max(0, waits - 1);
            open--;
        }

        private void takeSign(int kind, Laws laws) {
            if (kind != Tokens.NOT) {
                release(laws, strength(kind));
            }
            hold(kind);
            wantsPart = true;
            notMayCome = strength(kind) <= strength(Tokens.NOT);
            if (isComparison(kind)) {
                compared[open] = true;
            } else if (notMayCome) {
                compared[open] = false;
            }
        }

        private void hold(int kind) {
            if (waits < waiting.length) {
                waiting[waits] = kind;
                waits++;
            }
        }

        private void release(Laws laws, int least) {
            while (waits > 0 && strength(waiting[waits - 1]) >= least) {
                waits--;
                laws.add(waiting[waits], 0);
            }
        }

        /** The stronger a sign is, the closer it binds; an open '(' lets nothing through. */
        private static int strength(int kind) {
            switch (kind) {
                case Tokens.OPEN:
                    return 0;
                case Tokens.OR:
                    return 1;
                case Tokens.AND:
                    return 2;
                case Tokens.NOT:
                    return 3;
                case Tokens.PLUS:
                case Tokens.MINUS:
                    return 5;
                case Tokens.TIMES:
                case Tokens.DIVIDE:
                    return 6;
                default:
                    return 4;
            }
        }
    }

    /** The E of the rules, their knots in the order in which they are worked out. */
    private static final class Laws {
        private static final long LIMIT = 1000000000000L;
        private static final int NAMES = 7;
        private final int[] kind = new int[KNOTS];
        private final int[] value = new int[KNOTS];
        private final int[] from = new int[RULES];
        private final int[] to = new int[RULES];
        private final long[] stack = new long[KNOTS];
        /** What the names stand for, from base to day. */
        final long[] names = new long[NAMES];
        private int filled;
        int knots;
        private boolean minding;
        long answer;

        void clear() {
            filled = 0;
            knots = 0;
            minding = false;
            Arrays.fill(from, 0);
            Arrays.fill(to, 0);
        }

        void begin(int rule) {
            from[rule] = filled;
        }

        void end(int rule) {
            to[rule] = filled;
        }

        void add(int knot, int number) {
            if (filled < KNOTS) {
                kind[filled] = knot;
                value[filled] = number;
                filled++;
                minding = minding || knot == Tokens.BEHIND;
            }
        }

        boolean isTold(int rule) {
            return to[rule] > from[rule];
        }

        /** Whether what one does can hang on the sums of others. */
        boolean mindsOthers() {
            return minding;
        }

        /** Sets the answer; false with an error. */
        boolean workOut(int rule) {
            int top = 0;
            for (int i = from[rule]; i < to[rule] && top < KNOTS; i++) {
                int knot = kind[i];
                if (knot == Tokens.NUMBER) {
                    stack[top] = value[i];
                    top++;
                } else if (isWithin(knot, Tokens.BASE, Tokens.DAY)) {
                    stack[top] = names[knot - Tokens.BASE];
                    top++;
                } else if (top > 0 && knot == Tokens.NOT) {
                    stack[top - 1] = stack[top - 1] == 0 ? 1 : 0;
                } else if (top > 1 && isWorkable(knot, stack[top - 2], stack[top - 1])) {
                    top--;
                    stack[top - 1] = joined(knot, stack[top - 1], stack[top]);
                } else {
                    return false;
                }
            }
            answer = stack[0];
            return top == 1;
        }

        /** Both sides are within the limit, so that sums can't leave the longs; products are asked by division. */
        private static boolean isWorkable(int sign, long left, long right) {
            switch (sign) {
                case Tokens.PLUS:
                    return left + right <= LIMIT && left + right >= -LIMIT;
                case Tokens.MINUS:
                    return left - right <= LIMIT && left - right >= -LIMIT;
                case Tokens.TIMES:
                    long most = left == 0 ? LIMIT : LIMIT / (left < 0 ? -left : left);
                    return right <= most && right >= -most;
                case Tokens.DIVIDE:
                    return right != 0;
                default:
                    return true;
            }
        }

        private static long joined(int sign, long left, long right) {
            switch (sign) {
                case Tokens.PLUS:
                    return left + right;
                case Tokens.MINUS:
                    return left - right;
                case Tokens.TIMES:
                    return left * right;
                case Tokens.DIVIDE:
                    return right == 0 ? 0 : left / right;
                case Tokens.LESS:
                    return left < right ? 1 : 0;
                case Tokens.AT_MOST:
                    return left <= right ? 1 : 0;
                case Tokens.ALIKE:
                    return left == right ? 1 : 0;
                case Tokens.UNLIKE:
                    return left != right ? 1 : 0;
                case Tokens.AT_LEAST:
                    return left >= right ? 1 : 0;
                case Tokens.MORE:
                    return left > right ? 1 : 0;
                case Tokens.AND:
                    return left != 0 && right != 0 ? 1 : 0;
                default:
                    return left != 0 || right != 0 ? 1 : 0;
            }
        }
    }

    /** What a text tells. */
    private static final class Told {
        int men;
        final int[] manName = new int[MEN];
        final int[] goal = new int[MEN];
        final int[] base = new int[MEN];
        final int[] push = new int[MEN];
        int deeds;
        final int[] deedName = new int[DEEDS];
        final int[] real = new int[DEEDS];
        final int[] counted = new int[DEEDS];
        final int[] minutes = new int[DEEDS];
        int plans;
        /** How often a person does a deed: a row of all deeds for each person. */
        final int[] times = new int[MEN * DEEDS];
        int pot = 0;
        int betDays = 7;
        int pence;
        int payFrom;
        int rain;
        int seed;
        final Laws laws = new Laws();

        void clear() {
            men = 0;
            deeds = 0;
            plans = 0;
            Arrays.fill(times, 0);
            pot = 0;
            betDays = 7;
            pence = 0;
            payFrom = 0;
            rain = 0;
            seed = 0;
            laws.clear();
        }

        /** The sum of what each deed has, as often as it is done. */
        int inPlan(int[] each, int[] often) {
            int sum = 0;
            for (int d = 0; d < deeds; d++) {
                sum += each[d] * often[d];
            }
            return sum;
        }
    }

    /** A person as of a day. */
    private static final class Person {
        int goal;
        int base;
        int row;
        int broken;
        int sum;
        int walked;
        int steps;
        int pence;
        int won;
        int lent;
        boolean band;
        final int[] times = new int[DEEDS];

        void start(Told told, int man) {
            goal = told.goal[man];
            base = told.base[man];
            row = 0;
            broken = 0;
            sum = 0;
            walked = 0;
            steps = 0;
            pence = 0;
            won = 0;
            lent = 0;
            band = true;
            System.arraycopy(told.times, man * DEEDS, times, 0, DEEDS);
        }

        void copyFrom(Person other) {
            goal = other.goal;
            base = other.base;
            row = other.row;
            broken = other.broken;
            sum = other.sum;
            walked = other.walked;
            steps = other.steps;
            pence = other.pence;
            won = other.won;
            lent = other.lent;
            band = other.band;
            System.arraycopy(other.times, 0, times, 0, DEEDS);
        }

        /** What the band shows with so much by habit, ahead of any push. */
        int stepsOn(int ground, Told told) {
            return (band ? ground + told.inPlan(told.counted, times) : 0) + lent;
        }
    }

    /** All people as of a day, and how a day goes by. */
    private static final class World {
        static final int WALKED = 0;
        static final int STEPS = 1;
        static final int PENCE = 2;
        static final int WON = 3;
        static final int BROKEN = 4;

        final Person[] people = new Person[MEN];
        int day;
        int wetDays;
        long number;
        /** Who won the latest pot. */
        int winner = NONE;
        /** A person that isn't there. */
        int gone = NONE;
        /** The one person whose days are walked, or all. */
        int only = NONE;
        boolean pushless;

        World() {
            for (int i = 0; i < MEN; i++) {
                people[i] = new Person();
            }
        }

        void start(Told told) {
            for (int i = 0; i < MEN; i++) {
                people[i].start(told, i);
            }
            day = 0;
            wetDays = 0;
            number = told.seed;
            setPlain();
        }

        void copyFrom(World other) {
            for (int i = 0; i < MEN; i++) {
                people[i].copyFrom(other.people[i]);
            }
            day = other.day;
            wetDays = other.wetDays;
            number = other.number;
            setPlain();
        }

        private void setPlain() {
            winner = NONE;
            gone = NONE;
            only = NONE;
            pushless = false;
        }

        boolean drawsWet(int rain) {
            if (rain == 0) {
                return false;
            }
            number = (number * 1103515245L + 12345L) & 0x7fffffffL;
            return number / 65536 % 100 < rain;
        }

        void passDay(Told told, boolean wet) {
            for (int i = 0; i < told.men; i++) {
                if (i != gone && (only == NONE || only == i)) {
                    passPerson(told, i, wet);
                }
            }
            day++;
            if (wet) {
                wetDays++;
            }
            if (told.betDays > 0 && day % told.betDays == 0) {
                givePot(told);
            }
        }

        private void passPerson(Told told, int man, boolean wet) {
            Person p = people[man];
            int ground = wet ? p.base / 2 : p.base;
            int walks = ground + told.inPlan(told.real, p.times);
            int counts = p.stepsOn(ground, told);
            if (counts < p.goal && p.band && !pushless) {
                if (p.goal - counts <= ruled(told.laws, PUSH_RULE, p, counts, 99, told.push[man])) {
                    walks += p.goal - counts;
                    counts = p.goal;
                }
            }
            boolean reached = counts >= p.goal;
            int rowBefore = p.row;
            p.row = reached ? rowBefore + 1 : 0;
            if (!reached && rowBefore > 0) {
                p.broken++;
            }
            p.walked += walks;
            p.steps += counts;
            if (counts >= told.payFrom) {
                p.pence += told.pence;
            }
            p.sum += ruled(told.laws, FAIR_RULE, p, counts, 999, Math.min(counts, 999));
            p.base = ruled(told.laws, HABIT_RULE, p, counts, 99, habitOf(p, rowBefore));
            p.lent = 0;
        }

        private static int habitOf(Person p, int rowBefore) {
            if (p.row > 0 && p.row % 7 == 0) {
                return Math.min(99, p.base + 1);
            }
            return p.row == 0 && rowBefore >= 3 ? Math.max(0, p.base - 1) : p.base;
        }

        private void givePot(Told told) {
            winner = greatest(told.men);
            if (winner != NONE) {
                people[winner].won += told.pot;
            }
            for (int i = 0; i < told.men; i++) {
                people[i].sum = 0;
            }
        }

        /** Who has the greatest sum, the first of several. */
        int greatest(int men) {
            int first = NONE;
            for (int i = 0; i < men; i++) {
                if (i != gone && (first == NONE || people[i].sum > people[first].sum)) {
                    first = i;
                }
            }
            return first;
        }

        /** The E of a rule from 0 on up to the most, or what stands in its place without it or with an error. */
        private int ruled(Laws laws, int rule, Person p, int counts, int most, int otherwise) {
            if (!laws.isTold(rule)) {
                return otherwise;
            }
            setNames(laws, p, counts);
            if (!laws.workOut(rule)) {
                return otherwise;
            }
            return (int) Math.max(0L, Math.min((long) most, laws.answer));
        }

        /** What the names of the laws stand for, with so many steps. */
        void setNames(Laws laws, Person p, int counts) {
            int most = p.sum;
            for (int i = 0; i < MEN && laws.mindsOthers(); i++) {
                if (i != gone) {
                    most = Math.max(most, people[i].sum);
                }
            }
            laws.names[0] = p.base;
            laws.names[1] = p.goal;
            laws.names[2] = counts;
            laws.names[3] = p.row;
            laws.names[4] = Math.max(0, p.goal - counts);
            laws.names[5] = most - p.sum;
            laws.names[6] = day;
        }

        int inAll(int what, int men) {
            int sum = 0;
            for (int i = 0; i < men; i++) {
                Person p = people[i];
                switch (what) {
                    case WALKED:
                        sum += p.walked;
                        break;
                    case STEPS:
                        sum += p.steps;
                        break;
                    case PENCE:
                        sum += p.pence;
                        break;
                    case WON:
                        sum += p.won;
                        break;
                    default:
                        sum += p.broken;
                        break;
                }
            }
            return sum;
        }
    }

    /** What was noted of counted steps, and which of it is known. */
    private static final class Notes {
        private final int[] days = new int[NOTES];
        private final int[] man = new int[NOTES];
        private final int[] steps = new int[NOTES];
        private final boolean[] atLeast = new boolean[NOTES];
        /** The note that one strikes, or NONE. */
        private final int[] strikes = new int[NOTES];
        private final boolean[] struck = new boolean[NOTES];
        int size;
        /** NONE: by all, also those to come. */
        int knownBy = NONE;

        void clear() {
            size = 0;
            knownBy = NONE;
        }

        int firstKnown() {
            return knownBy == NONE ? size : knownBy;
        }

        int add(int behind, int person, int many, boolean least) {
            if (size >= NOTES) {
                return NONE;
            }
            days[size] = behind;
            man[size] = person;
            steps[size] = many;
            atLeast[size] = least;
            strikes[size] = NONE;
            size++;
            return size - 1;
        }

        int addStrike(int note) {
            int at = add(0, 0, 0, false);
            if (at != NONE) {
                strikes[at] = note;
            }
            return at;
        }

        /** From the last one on, since only a later note can take a strike back. */
        void findStruck() {
            for (int k = 0; k < NOTES; k++) {
                struck[k] = false;
            }
            for (int k = firstKnown() - 1; k >= 0; k--) {
                if (!struck[k] && strikes[k] != NONE) {
                    struck[strikes[k]] = true;
                }
            }
        }

        private boolean isKnown(int k) {
            return strikes[k] == NONE && !struck[k];
        }

        int lastDay() {
            int last = 0;
            for (int k = 0; k < firstKnown(); k++) {
                if (isKnown(k)) {
                    last = Math.max(last, days[k]);
                }
            }
            return last;
        }

        /** Whether all known notes of this day are so in a world that has come there. */
        boolean agree(int behind, World world) {
            for (int k = 0; k < firstKnown(); k++) {
                if (isKnown(k) && days[k] == behind && (world.people[man[k]].steps >= steps[k]) != atLeast[k]) {
                    return false;
                }
            }
            return true;
        }
    }

    /** What calls changed since the latest day went by, as it was ahead of each. */
    private static final class Changes {
        static final int BAND = 0;
        static final int GOAL = 1;
        static final int PLAN = 2;
        static final int LENT = 3;
        private final int[] kind = new int[CHANGES];
        private final int[] man = new int[CHANGES];
        private final int[] deed = new int[CHANGES];
        private final int[] before = new int[CHANGES];
        int size;

        void add(int what, int person, int which, int was) {
            if (size >= CHANGES) {
                dropFirst();
            }
            kind[size] = what;
            man[size] = person;
            deed[size] = which;
            before[size] = was;
            size++;
        }

        private void dropFirst() {
            for (int k = 1; k < CHANGES; k++) {
                kind[k - 1] = kind[k];
                man[k - 1] = man[k];
                deed[k - 1] = deed[k];
                before[k - 1] = before[k];
            }
            size = CHANGES - 1;
        }

        void takeBack(World world) {
            if (size == 0) {
                return;
            }
            size--;
            Person p = world.people[man[size]];
            switch (kind[size]) {
                case BAND:
                    p.band = before[size] == 1;
                    break;
                case GOAL:
                    p.goal = before[size];
                    break;
                case PLAN:
                    p.times[deed[size]] = before[size];
                    break;
                default:
                    p.lent = before[size];
                    break;
            }
        }
    }
}

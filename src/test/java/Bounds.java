import java.lang.reflect.InvocationTargetException;
import java.lang.reflect.Method;
import java.util.ArrayList;
import java.util.Arrays;
import java.util.Comparator;
import java.util.List;
import java.util.NoSuchElementException;

/** What the tests of boundary cases share. Each test quotes, by @Says, the words that it would fail without. */
final class Bounds {
    static final int MIN = Integer.MIN_VALUE;
    static final int MAX = Integer.MAX_VALUE;
    static final long NO_LAW = Long.MIN_VALUE;
    /** What manOf answers where man() throws IndexOutOfBoundsException. */
    static final int NO_PERSON = -1001;
    /** What manOf answers where man() throws NoSuchElementException. */
    static final int NO_WHAT = -1002;

    interface Call {
        long on(WristGoal x);
    }

    interface Each {
        long on(WristGoal x, int value);
    }

    private static String test = "";
    private static int asked = 0;
    private static int wrong = 0;
    /** So many wrong answers of one test are told; the rest would say no more. */
    private static final int TOLD = 6;
    private static int wrongAhead = 0;

    private Bounds() {
    }

    /** Runs each test of a class by itself, in the order of the promises; the exit code is 1 if one fails. */
    static void run(Class<?> tests) {
        List<Method> all = new ArrayList<>();
        for (Method m : tests.getDeclaredMethods()) {
            if (m.isAnnotationPresent(Says.class)) {
                all.add(m);
            }
        }
        all.sort(Comparator.comparing((Method m) -> m.getAnnotation(Says.class).promise())
            .thenComparing(Method::getName));
        int failed = 0;
        for (Method m : all) {
            failed += passes(m) ? 0 : 1;
        }
        System.out.println(tests.getName() + ": " + all.size() + " tests, " + asked + " asked, " + failed + " failed");
        if (failed > 0 || all.isEmpty()) {
            System.exit(1);
        }
    }

    private static boolean passes(Method m) {
        Says says = m.getAnnotation(Says.class);
        test = "promise " + says.promise() + " " + m.getName();
        wrongAhead = wrong;
        try {
            m.invoke(null);
        } catch (InvocationTargetException e) {
            isWrong("threw " + e.getCause());
        } catch (IllegalAccessException e) {
            isWrong("can't be called");
        }
        if (wrong > wrongAhead) {
            System.out.println("FAIL " + test + ", " + (wrong - wrongAhead) + " wrong: " + says.value());
        }
        return wrong == wrongAhead;
    }

    private static void isWrong(String what) {
        wrong++;
        if (wrong - wrongAhead <= TOLD) {
            System.out.println(test + ": " + what);
        }
    }

    static void due(String what, long got, long want) {
        asked++;
        if (got != want) {
            isWrong(what + " answered " + got + ", due is " + want);
        }
    }

    static void due(String what, boolean got, boolean want) {
        due(what, got ? 1 : 0, want ? 1 : 0);
    }

    static int bit(boolean is) {
        return is ? 1 : 0;
    }

    /** Twenty signs of a text from one on, as five numbers; blanks behind its end. */
    static int feed(WristGoal x, String text, int from) {
        int[] five = new int[5];
        for (int k = 0; k < 20; k++) {
            int sign = from + k < text.length() ? text.charAt(from + k) : ' ';
            five[k / 4] = five[k / 4] << 8 | sign;
        }
        return x.feed(five[0], five[1], five[2], five[3], five[4]);
    }

    static void feedAll(WristGoal x, String text) {
        for (int from = 0; from < text.length(); from += 20) {
            feed(x, text, from);
        }
    }

    static int tell(WristGoal x, String text) {
        feedAll(x, text);
        return x.text(text.length());
    }

    /** A new object that was told a text without a fault. */
    static WristGoal of(String text) {
        WristGoal x = new WristGoal();
        due("lines of " + text, tell(x, text), text.chars().filter(c -> c == ';').count());
        due("no fault in " + text, x.fault(0), 0);
        due("no place in " + text, x.fault(1), -1);
        return x;
    }

    /** A text with this fault at this place; all but the fault and the tape stays as it was. */
    static void faulty(String text, int fault, int place) {
        WristGoal x = busyOfEmptyTape();
        due("text " + text, tell(x, text), -1);
        due("fault of " + text, x.fault(0), fault);
        due("place in " + text, x.fault(1), place);
        alike("a fault leaves all: " + text, world(x), world(busyOfEmptyTape()));
        due("the tape is empty", x.feed(0, 0, 0, 0, 0), 20);
    }

    /** The value of an E of a person of base 30, goal 50, push 7, who is told alone. */
    static long value(String e) {
        return of("man a 50 30 7;law fair " + e + ";").law(2, 0);
    }

    static int manOf(WristGoal x, int man, int what) {
        try {
            return x.man(man, what);
        } catch (IndexOutOfBoundsException e) {
            return NO_PERSON;
        } catch (NoSuchElementException e) {
            return NO_WHAT;
        }
    }

    static int letters(String name) {
        int v = 0;
        for (int i = 0; i < 6; i++) {
            v = v * 32 + (i < name.length() ? name.charAt(i) - 'a' + 1 : 0);
        }
        return v;
    }

    /** An object of two people and two deeds in which nothing is as at first, so that any change of it is seen. */
    static WristGoal busy() {
        WristGoal x = busyOfEmptyTape();
        feed(x, "seed 5;rain 9;", 0);
        return x;
    }

    private static WristGoal busyOfEmptyTape() {
        WristGoal x = new WristGoal();
        tell(x, "man al 50 40 9;man bo 60 30 5;deed d 3 5 2;deed e 4 2 1;plan al d 2;plan bo e 3;bet 20 2;pay 3 50;"
            + "rain 40;seed 7;law push 12-behind/99;law habit base+(row=2)-(row=0);law fair steps-behind/9;");
        tell(x, "man #");
        x.go(3);
        x.lend(1, 99);
        x.go(1);
        x.wear(0, false);
        x.keep();
        x.go(1);
        x.note(2, 0, 90, true);
        x.note(3, 1, 100, false);
        x.out(0);
        x.known(2);
        x.wear(0, true);
        x.wear(1, false);
        x.goal(0, 55);
        x.plan(0, 1, 4);
        x.lend(1, 30);
        return x;
    }

    /** A call that is refused by this answer and leaves all as it was. */
    static void refused(String what, long answer, Call call) {
        WristGoal x = busy();
        due(what, call.on(x), answer);
        alike(what + " leaves all", everything(x), everything(busy()));
    }

    /** A call that answers something and leaves all as it was. */
    static void leavesAll(String what, Call call) {
        WristGoal x = busy();
        due(what + " is answered", call.on(x) != -1, true);
        alike(what + " leaves all", everything(x), everything(busy()));
    }

    /** An argument just outside its bounds, and far out, is refused and leaves all as it was. */
    static void refusedOutside(String what, int low, int high, long answer, Each call) {
        for (int v : new int[] {MIN, low - 1, high + 1, MAX}) {
            if (v < low || v > high) {
                refused(what + " " + v, answer, x -> call.on(x, v));
            }
        }
    }

    static void same(String what, WristGoal x, WristGoal y) {
        alike(what, everything(x), everything(y));
    }

    static void sameWorld(String what, WristGoal x, WristGoal y) {
        alike(what, world(x), world(y));
    }

    private static void alike(String what, List<String> got, List<String> want) {
        asked++;
        if (!got.equals(want)) {
            List<String> more = new ArrayList<>(got);
            more.removeAll(want);
            List<String> less = new ArrayList<>(want);
            less.removeAll(got);
            isWrong(what + ": " + more + ", due is " + less);
        }
    }

    /** All that can be asked of an object, what can be seen only by further changes at last; some 300 calls. */
    private static List<String> everything(WristGoal x) {
        List<String> said = new ArrayList<>();
        said.add("fault(0) = " + x.fault(0));
        said.add("fault(1) = " + x.fault(1));
        said.addAll(world(x));
        int held = x.feed(0x20202020, 0x20202020, 0x20202020, 0x20202020, 0x20202020);
        said.add("held = " + held);
        said.add("lines of the tape = " + x.text(Math.max(0, held)));
        said.add("fault of the tape = " + x.fault(0) + " at " + x.fault(1));
        said.add("rain of the tape = " + x.go(20) + " " + x.count(5));
        return said;
    }

    /** All but the tape and the latest fault. */
    private static List<String> world(WristGoal x) {
        List<String> said = new ArrayList<>();
        people("now", x, said);
        ahead(x, said);
        int most = x.count(13);
        for (int k = 0; k <= most; k++) {
            said.add("undo " + k + " = " + x.undo());
            for (int man = 0; man < 2; man++) {
                int[] its = {manOf(x, man, 0), x.has(man, 0), x.has(man, 1), x.times(man, 0), x.times(man, 1)};
                said.add("undone " + k + " of " + man + " = " + Arrays.toString(its));
            }
        }
        said.add("go(2) = " + x.go(2));
        people("then", x, said);
        said.add("back() = " + x.back());
        people("back", x, said);
        said.add("go(3) = " + x.go(3));
        people("back and 3", x, said);
        int notes = x.count(11);
        for (int n = -1; n <= notes && n < 6; n++) {
            said.add("known " + n + " = " + x.known(n) + " " + x.fits(0, 0) + " " + x.fits(1, 1));
        }
        return said;
    }

    private static void people(String when, WristGoal x, List<String> said) {
        for (int what = 0; what <= 13; what++) {
            said.add(when + " count(" + what + ") = " + x.count(what));
        }
        for (int man = 0; man < 2; man++) {
            for (int what = 0; what < 8; what++) {
                said.add(when + " man(" + man + ", " + what + ") = " + manOf(x, man, what));
            }
            for (int what = 0; what < 4; what++) {
                said.add(when + " has(" + man + ", " + what + ") = " + x.has(man, what));
            }
            for (int deed = 0; deed < 2; deed++) {
                said.add(when + " times(" + man + ", " + deed + ") = " + x.times(man, deed));
            }
        }
    }

    private static void ahead(WristGoal x, List<String> said) {
        said.add("leads = " + x.leads() + " " + x.winner(0) + " " + x.winner(1));
        for (int man = 0; man < 2; man++) {
            said.add("deed " + man + " = " + x.deed(man, 0) + " " + x.deed(man, 1) + " " + x.deed(man, 2));
            said.add("law " + man + " = " + x.law(0, man) + " " + x.law(1, man) + " " + x.law(2, man));
            said.add("ahead " + man + " = " + x.ahead(man, 6, 0) + " " + x.ahead(man, 6, 1) + " " + x.ahead(man, 6, 3));
            said.add("chance " + man + " = " + x.chance(3, 5, man, 1));
            said.add("earns " + man + " = " + x.earns(man, 6, 0) + " " + x.earns(man, 6, 1));
            said.add("fits " + man + " = " + x.fits(man, 0) + " " + x.fits(man, 1));
        }
        said.add("named = " + x.named(0, letters("al")) + " " + x.named(1, letters("e")));
        said.add("tried = " + x.tried(0, 0, 4));
    }
}

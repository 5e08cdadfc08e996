/** Boundary cases of what is told of people and deeds now, and of what calls change: promises 6 to 15. */
public final class BoundsOfCallsTest {
    private static final String FIVE = "man a 11 12 13;man b 21 22 23;man c 31 32 33;man d 41 42 43;man e 51 52 53;";
    private static final String SIX =
        "deed a 1 2 3;deed b 4 5 6;deed c 7 8 9;deed d 10 11 1;deed e 12 13 2;deed f 14 15 3;";

    public static void main(String[] args) {
        Bounds.run(BoundsOfCallsTest.class);
    }

    private static void due(String what, long got, long want) {
        Bounds.due(what, got, want);
    }

    private static int man(WristGoal x, int man, int what) {
        return Bounds.manOf(x, man, what);
    }

    /** Al pushes 10 each day; bo's row of 3 is broken by a day without the band. */
    private static WristGoal fourDays() {
        WristGoal x = Bounds.of("man al 50 40 10;man bo 30 30 7;deed d 5 4 1;plan bo d 2;bet 9 14;pay 2 38;");
        x.go(3);
        x.wear(1, false);
        x.lend(1, 1);
        x.go(1);
        return x;
    }

    @Says(promise = 6, value = "Of a PERSON now, what 0 GOAL, 1 BASE, 2 PUSH, 3 ROW, 4 how often BROKEN, 5 SUM, 6 "
        + "WALKED in all, 7 STEPS in all.")
    static void eightNumbersOfAPerson() {
        WristGoal x = fourDays();
        int[] al = {50, 40, 10, 4, 0, 200, 200, 200};
        int[] bo = {30, 29, 7, 0, 1, 3 * 38 + 1, 4 * 40, 3 * 38 + 1};
        for (int what = 0; what < 8; what++) {
            due("al's " + what, man(x, 0, what), al[what]);
            due("bo's " + what, man(x, 1, what), bo[what]);
        }
        x = Bounds.of(FIVE);
        for (int k = 0; k < 15; k++) {
            due("as told " + k, man(x, k / 3, k % 3), 10 * (k / 3 + 1) + k % 3 + 1);
        }
        x.goal(4, 99);
        due("goal now", man(x, 4, 0), 99);
    }

    @Says(promise = 6, value = "IndexOutOfBoundsException: no such PERSON.")
    static void manOfNoSuchPerson() {
        Bounds.refusedOutside("man", 0, 1, Bounds.NO_PERSON, (x, i) -> man(x, i, 0));
        Bounds.refusedOutside("man of no such what", 0, 1, Bounds.NO_PERSON, (x, i) -> man(x, i, 8));
        WristGoal x = Bounds.of(FIVE);
        due("the fifth", man(x, 4, 0), 51);
        due("the sixth", man(x, 5, 0), Bounds.NO_PERSON);
        Bounds.tell(x, "man a 1 1 1;");
        due("one of the text ahead", man(x, 1, 0), Bounds.NO_PERSON);
        due("nobody is there", man(new WristGoal(), 0, 0), Bounds.NO_PERSON);
    }

    @Says(promise = 6, value = "NoSuchElementException: no such what.")
    static void manOfNoSuchWhat() {
        Bounds.refusedOutside("what", 0, 7, Bounds.NO_WHAT, (x, what) -> man(x, 0, what));
        Bounds.refusedOutside("what", 0, 7, Bounds.NO_WHAT, (x, what) -> man(x, 1, what));
        due("nobody is there", man(new WristGoal(), 0, 8), Bounds.NO_PERSON);
    }

    @Says(promise = 7, value = "Of a PERSON now, what 0 whether with the BAND (1, 0), 1 LENT, 2 PENCE in all, 3 "
        + "what was WON in all.")
    static void fourThatAPersonHas() {
        WristGoal x = fourDays();
        x.lend(0, 99);
        x.lend(0, 1);
        int[] al = {1, 100, 8, 0};
        int[] bo = {0, 0, 6, 0};
        for (int what = 0; what < 4; what++) {
            due("al's " + what, x.has(0, what), al[what]);
            due("bo's " + what, x.has(1, what), bo[what]);
        }
        x.go(10);
        due("al won", x.has(0, 3), 9);
        due("bo didn't", x.has(1, 3), 0);
        x.go(14);
        due("al won in all", x.has(0, 3), 18);
        due("al's pence in all", x.has(0, 2), 2 * 28);
        due("nothing is lent", x.has(0, 1), 0);
    }

    @Says(promise = 7, value = "NONE: no such ones.")
    static void hasNoSuchOnes() {
        Bounds.refusedOutside("man", 0, 1, -1, (x, i) -> x.has(i, 0));
        Bounds.refusedOutside("what", 0, 3, -1, (x, what) -> x.has(0, what));
        Bounds.refused("neither", -1, x -> x.has(2, 4));
        WristGoal x = Bounds.of(FIVE);
        due("the fifth", x.has(4, 0), 1);
        due("the sixth", x.has(5, 0), -1);
    }

    @Says(promise = 8, value = "Of a DEED, what 0 TRUE, 1 COUNTED, 2 MINUTES.")
    static void threeNumbersOfADeed() {
        WristGoal x = Bounds.of(SIX);
        int[] due = {1, 2, 3, 4, 5, 6, 7, 8, 9, 10, 11, 1, 12, 13, 2, 14, 15, 3};
        for (int k = 0; k < due.length; k++) {
            due("number " + k, x.deed(k / 3, k % 3), due[k]);
        }
    }

    @Says(promise = 8, value = "NONE: no such ones.")
    static void noSuchDeed() {
        Bounds.refusedOutside("deed", 0, 1, -1, (x, d) -> x.deed(d, 0));
        Bounds.refusedOutside("what", 0, 2, -1, (x, what) -> x.deed(0, what));
        WristGoal x = Bounds.of(SIX);
        due("the sixth", x.deed(5, 1), 15);
        due("the seventh", x.deed(6, 1), -1);
        Bounds.tell(x, "deed a 1 1 1;");
        due("one of the text ahead", x.deed(1, 0), -1);
    }

    @Says(promise = 9, value = "How often a PERSON does a DEED a DAY (0 without a PLAN);")
    static void timesOfPlans() {
        WristGoal x = Bounds.of(FIVE + SIX + "plan a a 1;plan e f 9;plan c d 5;");
        for (int k = 0; k < 30; k++) {
            int due = k == 0 ? 1 : k == 29 ? 9 : k == 15 ? 5 : 0;
            due("times " + k, x.times(k / 6, k % 6), due);
        }
        x.plan(4, 5, 0);
        x.plan(0, 5, 9);
        due("none any more", x.times(4, 5), 0);
        due("9 now", x.times(0, 5), 9);
    }

    @Says(promise = 9, value = "NONE: no such ones.")
    static void timesOfNoSuchOnes() {
        Bounds.refusedOutside("man", 0, 1, -1, (x, i) -> x.times(i, 0));
        Bounds.refusedOutside("deed", 0, 1, -1, (x, d) -> x.times(0, d));
        WristGoal x = Bounds.of(FIVE + SIX);
        due("the last ones", x.times(4, 5), 0);
        due("no sixth person", x.times(5, 5), -1);
        due("no seventh deed", x.times(4, 6), -1);
    }

    @Says(promise = 10, value = "The law's E of a PERSON now, as if STEPS were those of BASE, PLANS and LENT ones "
        + "(the BAND as it is, not WET;")
    static void lawAsIfToday() {
        WristGoal x = Bounds.of("man a 50 31 99;man b 9 20 0;deed d 1 4 1;plan a d 2;rain 100;law push steps;"
            + "law habit lacks;law fair steps;");
        for (int what = 0; what < 3; what += 2) {
            due("base and plans, neither halved nor pushed", x.law(what, 0), 39);
        }
        due("lacks", x.law(1, 0), 11);
        x.lend(0, 99);
        due("lent ones", x.law(2, 0), 138);
        due("lacks 0", x.law(1, 0), 0);
        due("of another person", x.law(2, 1), 20);
        x.wear(0, false);
        due("without the band lent ones alone", x.law(2, 0), 99);
        x.undo();
        x.undo();
        x.plan(0, 0, 9);
        due("plans as they are", x.law(0, 0), 67);
        x.goal(0, 99);
        due("goal as it is", x.law(1, 0), 32);
    }

    @Says(promise = 10, value = "what 0 push, 1 habit, 2 fair;")
    static void threeLaws() {
        WristGoal x = Bounds.of("man a 1 1 1;law fair 3;law push 1;law habit 2;");
        for (int what = 0; what < 3; what++) {
            due("law " + what, x.law(what, 0), what + 1);
        }
        due("an E isn't bounded above", Bounds.value("9999*9999"), 99980001);
        due("nor below", Bounds.value("0-5"), -5);
        due("a push isn't bounded", Bounds.of("man a 1 1 1;law push 100;").law(0, 0), 100);
        due("a habit isn't bounded", Bounds.of("man a 1 1 1;law habit 0-100;").law(1, 0), -100);
    }

    @Says(promise = 10, value = "ROW as it is now).")
    static void lawOfRowNow() {
        WristGoal x = Bounds.of("man a 0 9 0;law push row;law habit row;law fair row;");
        for (int days = 0; days < 3; days++) {
            due("push", x.law(0, 0), days);
            due("habit", x.law(1, 0), days);
            due("fair", x.law(2, 0), days);
            x.go(1);
        }
    }

    @Says(promise = 10, value = "Long.MIN_VALUE: an ERROR, no such law, no such ones.")
    static void noLaw() {
        Bounds.refusedOutside("what", 0, 2, Bounds.NO_LAW, (x, what) -> x.law(what, 0));
        Bounds.refusedOutside("man", 0, 1, Bounds.NO_LAW, (x, i) -> x.law(0, i));
        due("an ERROR", Bounds.value("1/0"), Bounds.NO_LAW);
        WristGoal x = Bounds.of("man a 1 1 1;law habit 5;");
        due("no push", x.law(0, 0), Bounds.NO_LAW);
        due("habit", x.law(1, 0), 5);
        due("no fair", x.law(2, 0), Bounds.NO_LAW);
        due("no such person", x.law(1, 1), Bounds.NO_LAW);
        Bounds.tell(x, "man a 1 1 1;");
        due("a law of the text ahead", x.law(1, 0), Bounds.NO_LAW);
        due("nobody is there", Bounds.of("law push 1;").law(0, 0), Bounds.NO_LAW);
    }

    @Says(promise = 11, value = "A PERSON wears the BAND from now on, or not: true;")
    static void bandOffAndOn() {
        WristGoal x = Bounds.of(FIVE);
        due("off", x.wear(4, false), true);
        due("off", x.has(4, 0), 0);
        due("others keep it", x.has(3, 0), 1);
        x.go(2);
        due("from now on", x.has(4, 0), 0);
        due("no steps", man(x, 4, 7), 0);
        due("on", x.wear(4, true), true);
        due("on", x.has(4, 0), 1);
        x.go(1);
        due("steps again", man(x, 4, 7), 52);
        due("the first one", x.wear(0, false), true);
    }

    private static void due(String what, boolean got, boolean want) {
        Bounds.due(what, got, want);
    }

    @Says(promise = 11, value = "false: no such one, it is so.")
    static void bandRefused() {
        Bounds.refusedOutside("man", 0, 1, 0, (x, i) -> Bounds.bit(x.wear(i, false)));
        Bounds.refusedOutside("man", 0, 1, 0, (x, i) -> Bounds.bit(x.wear(i, true)));
        Bounds.refused("al wears it", 0, x -> Bounds.bit(x.wear(0, true)));
        Bounds.refused("bo doesn't", 0, x -> Bounds.bit(x.wear(1, false)));
        WristGoal x = Bounds.of("man a 1 1 1;");
        due("all wear it at first", x.wear(0, true), false);
        due("nothing to undo", x.undo(), -1);
    }

    @Says(promise = 12, value = "GOAL 0 .. 99 of a PERSON from now on: true;")
    static void goalFrom0To99() {
        WristGoal x = Bounds.of(FIVE);
        due("99", x.goal(4, 99), true);
        due("99", man(x, 4, 0), 99);
        due("0", x.goal(4, 0), true);
        due("0", man(x, 4, 0), 0);
        due("others stay", man(x, 3, 0), 41);
        x.wear(4, false);
        x.go(3);
        due("from now on", man(x, 4, 3), 3);
        due("still", man(x, 4, 0), 0);
        due("the first one", x.goal(0, 1), true);
    }

    @Says(promise = 12, value = "false: no such ones, it is so.")
    static void goalRefused() {
        Bounds.refusedOutside("goal", 0, 99, 0, (x, goal) -> Bounds.bit(x.goal(0, goal)));
        Bounds.refusedOutside("man", 0, 1, 0, (x, i) -> Bounds.bit(x.goal(i, 5)));
        Bounds.refused("it is so", 0, x -> Bounds.bit(x.goal(0, 55)));
        Bounds.refused("it is so", 0, x -> Bounds.bit(x.goal(1, 60)));
    }

    @Says(promise = 13, value = "A PERSON does a DEED 0 .. 9 times a DAY from now on (without a PLAN, too): true;")
    static void planFrom0To9() {
        WristGoal x = Bounds.of(FIVE + SIX + "plan e f 5;");
        due("9", x.plan(4, 5, 9), true);
        due("9", x.times(4, 5), 9);
        due("0", x.plan(4, 5, 0), true);
        due("0", x.times(4, 5), 0);
        due("without a plan", x.plan(0, 0, 1), true);
        due("without a plan", x.times(0, 0), 1);
        due("of both alone", x.times(0, 5) + x.times(4, 0) + x.times(1, 0) + x.times(0, 1), 0);
        x.go(2);
        due("from now on", man(x, 0, 6), 2 * 13);
        for (int k = 0; k < 30; k++) {
            x.plan(k / 6, k % 6, 9);
        }
        due("more than twelve", x.ahead(0, 1, 0), 12 + 9 * (2 + 5 + 8 + 11 + 13 + 15));
        due("plans told", x.count(2), 1);
    }

    @Says(promise = 13, value = "false: no such ones, it is so.")
    static void planRefused() {
        Bounds.refusedOutside("times", 0, 9, 0, (x, times) -> Bounds.bit(x.plan(0, 0, times)));
        Bounds.refusedOutside("man", 0, 1, 0, (x, i) -> Bounds.bit(x.plan(i, 0, 7)));
        Bounds.refusedOutside("deed", 0, 1, 0, (x, d) -> Bounds.bit(x.plan(0, d, 7)));
        Bounds.refused("it is so", 0, x -> Bounds.bit(x.plan(0, 1, 4)));
        Bounds.refused("without a plan 0 is so", 0, x -> Bounds.bit(x.plan(1, 0, 0)));
    }

    @Says(promise = 14, value = "So many steps 1 .. 99 more are LENT to a PERSON today (the dog wears it): how many "
        + "there are;")
    static void lendFrom1To99() {
        WristGoal x = Bounds.of(FIVE);
        due("1", x.lend(4, 1), 1);
        due("99 more", x.lend(4, 99), 100);
        due("to that one", x.has(4, 1), 100);
        due("to no other", x.has(3, 1), 0);
        due("the first one", x.lend(0, 99), 99);
        x.go(1);
        due("today", man(x, 4, 7), 152);
        due("not walked", man(x, 4, 6), 52);
        due("today alone", x.lend(4, 1), 1);
    }

    @Says(promise = 14, value = "NONE: no such ones, there would be more than 999.")
    static void lendRefused() {
        Bounds.refusedOutside("steps", 1, 99, -1, (x, steps) -> x.lend(0, steps));
        Bounds.refusedOutside("man", 0, 1, -1, (x, i) -> x.lend(i, 1));
        WristGoal x = Bounds.of("man a 9 9 9;man b 9 9 9;");
        for (int k = 1; k <= 10; k++) {
            due("99", x.lend(0, 99), 99 * k);
        }
        due("1000", x.lend(0, 10), -1);
        due("it stays", x.has(0, 1), 990);
        due("ten to undo", x.count(13), 10);
        due("999", x.lend(0, 9), 999);
        due("1000", x.lend(0, 1), -1);
        due("1098", x.lend(0, 99), -1);
        due("it stays", x.has(0, 1), 999);
        due("eleven to undo", x.count(13), 11);
        due("to another one", x.lend(1, 99), 99);
        x.undo();
        due("the latest two undone", x.undo(), 10);
        due("990", x.has(0, 1), 990);
    }

    @Says(promise = 15, value = "So many DAYS (0 .. 99) go by: which one it is;")
    static void goFrom0To99() {
        WristGoal x = Bounds.of("man a 9 9 0;");
        due("0", x.go(0), 0);
        due("99", x.go(99), 99);
        due("99 went by", man(x, 0, 7) >= 99 * 9, true);
        due("row", man(x, 0, 3), 99);
        due("1", x.go(1), 100);
        due("row", man(x, 0, 3), 100);
        due("0", x.go(0), 100);
        due("row", man(x, 0, 3), 100);
        due("without people", new WristGoal().go(99), 99);
    }

    @Says(promise = 15, value = "NONE, and none does: no such number, behind 9900.")
    static void goRefused() {
        Bounds.refusedOutside("days", 0, 99, -1, (x, n) -> x.go(n));
        WristGoal x = Bounds.of("man a 9 9 0;");
        for (int k = 1; k <= 99; k++) {
            x.go(99);
        }
        due("9801", x.go(0), 9801);
        x.lend(0, 5);
        x.go(1);
        x.lend(0, 5);
        due("9901", x.go(99), -1);
        due("no day went by", x.count(4), 9802);
        due("row", man(x, 0, 3), 9802);
        due("lent still", x.has(0, 1), 5);
        due("to undo still", x.count(13), 1);
        due("9900", x.go(98), 9900);
        due("row", man(x, 0, 3), 9900);
        due("9901", x.go(1), -1);
        due("9999", x.go(99), -1);
        due("9900", x.go(0), 9900);
        due("row", man(x, 0, 3), 9900);
    }
}

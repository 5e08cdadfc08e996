/** Boundary cases of a DAY, of NAMES, VALUES and numbers (==== 2), each by the promise at which they are seen. */
public final class BoundsOfDayTest {
    public static void main(String[] args) {
        Bounds.run(BoundsOfDayTest.class);
    }

    private static void due(String what, long got, long want) {
        Bounds.due(what, got, want);
    }

    private static int man(WristGoal x, int man, int what) {
        return Bounds.manOf(x, man, what);
    }

    /** A new object of a text, so many days later. */
    private static WristGoal after(int days, String text) {
        WristGoal x = Bounds.of(text);
        due("days", x.go(days), days);
        return x;
    }

    private static long next(long number) {
        return (number * 1103515245L + 12345L) % 2147483648L;
    }

    @Says(promise = 15, value = "==== 2. A PERSON wears the BAND or not (all at first).")
    static void allWearTheBandAtFirst() {
        WristGoal x = Bounds.of("man a 1 1 1;man b 1 1 1;man c 1 1 1;man d 1 1 1;man e 1 1 1;");
        for (int i = 0; i < 5; i++) {
            due("band of " + i, x.has(i, 0), 1);
        }
    }

    @Says(promise = 15, value = "A DAY: (1) a number modulo 100: below rain it is WET")
    static void wetBelowRain() {
        int inside = 0;
        for (int seed = 0; seed < 40; seed++) {
            int number = (int) (next(seed * 997) / 65536 % 100);
            due("below", after(1, "rain " + (number + 1) + ";seed " + seed * 997 + ";").count(5), 1);
            due("not below", after(1, "rain " + number + ";seed " + seed * 997 + ";").count(5), 0);
            inside += number > 0 && number < 99 ? 1 : 0;
        }
        Bounds.due("numbers of all kinds", inside > 20, true);
        for (int seed = 0; seed < 99999; seed++) {
            if (next(seed) / 65536 % 100 == 99) {
                due("99 below 100", after(1, "rain 100;seed " + seed + ";").count(5), 1);
                due("99 not below 99", after(1, "rain 99;seed " + seed + ";").count(5), 0);
                break;
            }
        }
    }

    @Says(promise = 15, value = "(no number, if rain is 0).")
    static void noRainNoNumber() {
        due("the number 0 of seed 0 isn't below 0", after(1, "rain 0;seed 0;").count(5), 0);
        due("below 1", after(1, "rain 1;seed 0;").count(5), 1);
        due("never", after(99, "rain 0;seed 77;").count(5), 0);
        WristGoal x = Bounds.of("man a 50 50 0;rain 0;");
        for (int seed = 0; seed < 20; seed++) {
            due("chance without numbers", x.chance(seed, 60, 0, 60), 10);
        }
    }

    @Says(promise = 15, value = "(2) by numbers each PERSON:")
    static void peopleByNumbers() {
        WristGoal x = after(1, "man a 0 1 0;man b 0 1 0;man c 0 1 0;man d 0 1 0;man e 0 1 0;law fair 1+behind*2;");
        int[] sums = {1, 1 + 2 * 1, 1 + 2 * 3, 1 + 2 * 7, 1 + 2 * 15};
        for (int i = 0; i < 5; i++) {
            due("sum of " + i, man(x, i, 5), sums[i]);
        }
    }

    @Says(promise = 15, value = "WALKS BASE (half of it, cut, if WET) and TRUE steps of each DEED as often as planned.")
    static void walksHalfIfWet() {
        int[] base = {0, 1, 2, 41, 98, 99};
        for (int b : base) {
            due("dry " + b, man(after(1, "man a 0 " + b + " 0;"), 0, 6), b);
            due("wet " + b, man(after(1, "man a 0 " + b + " 0;rain 100;"), 0, 6), b / 2);
        }
        String deeds = "deed a 20 0 0;deed b 1 0 0;deed c 3 9 0;deed d 0 20 0;deed e 5 1 0;deed f 7 1 0;"
            + "plan a a 9;plan a b 2;plan a f 1;";
        due("deeds dry", man(after(1, "man a 0 41 0;" + deeds), 0, 6), 41 + 180 + 2 + 7);
        due("deeds aren't halved", man(after(1, "man a 0 41 0;rain 100;" + deeds), 0, 6), 20 + 180 + 2 + 7);
        WristGoal x = Bounds.of("man a 0 41 0;" + deeds);
        x.wear(0, false);
        x.go(1);
        due("without the band, too", man(x, 0, 6), 41 + 180 + 2 + 7);
    }

    @Says(promise = 15, value = "STEPS: with the BAND BASE so and COUNTED ones likewise, else 0;")
    static void countedWithTheBand() {
        String deeds = "deed a 20 0 0;deed b 1 20 0;deed c 3 9 0;plan a a 9;plan a b 9;plan a c 1;";
        due("dry", man(after(1, "man a 0 41 0;" + deeds), 0, 7), 41 + 180 + 9);
        due("wet", man(after(1, "man a 0 41 0;rain 100;" + deeds), 0, 7), 20 + 180 + 9);
        WristGoal x = Bounds.of("man a 0 41 0;" + deeds);
        x.wear(0, false);
        x.go(1);
        due("without", man(x, 0, 7), 0);
        due("sum without", man(x, 0, 5), 0);
    }

    @Says(promise = 15, value = "LENT ones besides, with the BAND or without.")
    static void lentBesides() {
        WristGoal x = Bounds.of("man a 50 49 0;man b 50 49 99;rain 100;");
        x.lend(0, 26);
        x.wear(1, false);
        x.lend(1, 50);
        x.go(1);
        due("with the band", man(x, 0, 7), 24 + 26);
        due("goal reached with", man(x, 0, 3), 1);
        due("without", man(x, 1, 7), 50);
        due("goal reached without", man(x, 1, 3), 1);
        due("not walked", man(x, 0, 6) + man(x, 1, 6), 48);
    }

    @Says(promise = 15, value = "If STEPS are below GOAL, with the BAND, and what lacks is at most E of push")
    static void pushedIfAtMostSoMuchLacks() {
        due("10 of 10", man(after(1, "man a 50 40 10;"), 0, 7), 50);
        due("11 of 10", man(after(1, "man a 50 39 10;"), 0, 7), 39);
        due("9 of 10", man(after(1, "man a 50 41 10;"), 0, 7), 50);
        due("by law 10 of 10", man(after(1, "man a 50 40 0;law push 10;"), 0, 7), 50);
        due("by law 11 of 10", man(after(1, "man a 50 39 99;law push 10;"), 0, 7), 39);
        due("not below", man(after(1, "man a 50 50 99;"), 0, 7), 50);
        due("above", man(after(1, "man a 50 51 99;"), 0, 7), 51);
        due("wet", man(after(1, "man a 50 80 10;rain 100;"), 0, 7), 50);
        due("wet, 11 lack", man(after(1, "man a 50 79 10;rain 100;"), 0, 7), 39);
        WristGoal x = Bounds.of("man a 50 40 99;");
        x.wear(0, false);
        x.lend(0, 49);
        x.go(1);
        due("1 lacks without the band", man(x, 0, 7), 49);
        due("nothing more is walked", man(x, 0, 6), 40);
        x = Bounds.of("man a 50 30 10;");
        x.lend(0, 10);
        x.go(1);
        due("lent ones ahead of the push", man(x, 0, 7), 50);
    }

    @Says(promise = 15, value = "(0 .. 99; PUSH without, with an ERROR), it is WALKED and counted, too.")
    static void pushWithoutOrWithAnError() {
        due("99 lack of 99", man(after(1, "man a 99 0 99;"), 0, 6), 99);
        due("99 lack of 98", man(after(1, "man a 99 0 98;"), 0, 6), 0);
        due("99 by law", man(after(1, "man a 99 0 0;law push 99;"), 0, 6), 99);
        due("98 by law", man(after(1, "man a 99 0 99;law push 98;"), 0, 6), 0);
        due("more than 99 by law", man(after(1, "man a 99 0 0;law push 9999*9999;"), 0, 6), 99);
        due("0 by law", man(after(1, "man a 50 49 99;law push 0;"), 0, 6), 49);
        due("below 0 by law", man(after(1, "man a 50 49 99;law push 0-9999;"), 0, 6), 49);
        due("0 lack", man(after(1, "man a 50 50 99;law push 0-9999;"), 0, 3), 1);
        due("an ERROR: 10 of 10", man(after(1, "man a 50 40 10;law push 99/0;"), 0, 6), 50);
        due("an ERROR: 11 of 10", man(after(1, "man a 50 39 10;law push 99/0;"), 0, 6), 39);
        due("walked with deeds", man(after(1, "man a 50 35 10;deed d 2 5 1;plan a d 1;"), 0, 6), 47);
        due("counted with deeds", man(after(1, "man a 50 35 10;deed d 2 5 1;plan a d 1;"), 0, 7), 50);
    }

    @Says(promise = 15, value = "GOAL is REACHED, if STEPS are GOAL at least: ROW is 1 more;")
    static void goalReached() {
        due("as many", man(after(3, "man a 50 50 0;"), 0, 3), 3);
        due("1 more", man(after(3, "man a 50 51 0;"), 0, 3), 3);
        due("1 fewer", man(after(3, "man a 50 49 0;"), 0, 3), 0);
        due("by a push", man(after(3, "man a 50 49 1;"), 0, 3), 3);
        due("0 of 0", man(after(3, "man a 0 0 0;"), 0, 3), 3);
        WristGoal x = Bounds.of("man a 0 50 0;");
        x.wear(0, false);
        x.go(2);
        due("0 of 0 without the band", man(x, 0, 3), 2);
    }

    @Says(promise = 15, value = "else ROW is 0 (BROKEN once more, if it was above 0).")
    static void rowsBreak() {
        WristGoal x = Bounds.of("man a 50 50 0;");
        x.goal(0, 51);
        x.go(2);
        due("no row", man(x, 0, 3), 0);
        due("a row of 0 isn't broken", man(x, 0, 4), 0);
        x.goal(0, 50);
        x.go(1);
        due("a row of 1", man(x, 0, 3), 1);
        x.goal(0, 51);
        x.go(1);
        due("broken", man(x, 0, 3), 0);
        due("once", man(x, 0, 4), 1);
        x.go(5);
        due("once only", man(x, 0, 4), 1);
        x.goal(0, 50);
        x.go(2);
        x.goal(0, 51);
        x.go(1);
        due("once more", man(x, 0, 4), 2);
    }

    @Says(promise = 15, value = "PENCE are paid, if STEPS are so many at least.")
    static void paidFromSoManyOn() {
        due("as many", after(2, "man a 0 50 0;pay 7 50;").has(0, 2), 14);
        due("1 fewer", after(2, "man a 0 49 0;pay 7 50;").has(0, 2), 0);
        due("by a push", after(2, "man a 50 49 1;pay 7 50;").has(0, 2), 14);
        due("true ones don't count", after(2, "man a 0 49 0;deed d 20 0 1;plan a d 1;pay 7 50;").has(0, 2), 0);
        WristGoal x = Bounds.of("man a 0 49 0;pay 7 50;");
        x.wear(0, false);
        x.lend(0, 50);
        x.go(1);
        due("lent ones count", x.has(0, 2), 7);
        due("0 from 0 on", after(3, "man a 9 0 0;pay 7 0;").has(0, 2), 21);
    }

    @Says(promise = 15, value = "SUM is more by E of fair (0 .. 999; STEPS, 999 at most, without, with an ERROR).")
    static void sumsByFair() {
        due("999", man(after(1, "man a 0 0 0;law fair 999;"), 0, 5), 999);
        due("1000", man(after(1, "man a 0 0 0;law fair 1000;"), 0, 5), 999);
        due("0", man(after(1, "man a 0 50 0;law fair 0;"), 0, 5), 0);
        due("below 0", man(after(1, "man a 0 50 0;law fair 0-1;"), 0, 5), 0);
        due("1", man(after(1, "man a 0 50 0;law fair 1;"), 0, 5), 1);
        due("two days", man(after(2, "man a 0 50 0;law fair 999;"), 0, 5), 1998);
        due("without", man(after(1, "man a 0 50 0;"), 0, 5), 50);
        due("with an ERROR", man(after(1, "man a 0 50 0;law fair 1/0;"), 0, 5), 50);
        for (String law : new String[] {"", "law fair 1/0;", "law fair steps;"}) {
            WristGoal x = Bounds.of("man a 0 10 0;" + law);
            for (int k = 0; k < 10; k++) {
                x.lend(0, k < 9 ? 99 : 98);
            }
            x.keep();
            x.go(1);
            due("999 steps" + law, man(x, 0, 5), 999);
            x.back();
            x.lend(0, 1);
            x.go(1);
            due("1000 steps" + law, man(x, 0, 5), 999);
            due("all steps", man(x, 0, 7), 1000);
        }
    }

    @Says(promise = 15, value = "BASE of the next DAY is E of habit (0 .. 99;")
    static void baseByHabit() {
        due("99", man(after(1, "man a 0 5 0;law habit 99;"), 0, 1), 99);
        due("100", man(after(1, "man a 0 5 0;law habit 100;"), 0, 1), 99);
        due("0", man(after(1, "man a 0 5 0;law habit 0;"), 0, 1), 0);
        due("below 0", man(after(1, "man a 0 5 0;law habit 0-1;"), 0, 1), 0);
        due("1", man(after(1, "man a 0 5 0;law habit 1;"), 0, 1), 1);
        WristGoal x = after(1, "man a 0 5 0;law habit 50;");
        due("of the next day", man(x, 0, 6), 5);
        x.go(1);
        due("then", man(x, 0, 6), 55);
        due("a row of 7 changes nothing then", man(after(7, "man a 0 5 0;law habit base;"), 0, 1), 5);
    }

    @Says(promise = 15, value = "without, with an ERROR: 1 more, 99 at most, if REACHED and ROW can be divided by 7;")
    static void oneMoreBySevens() {
        for (String law : new String[] {"", "law habit 1/0;"}) {
            due("6 days", man(after(6, "man a 9 20 0;" + law), 0, 1), 20);
            due("7 days", man(after(7, "man a 9 20 0;" + law), 0, 1), 21);
            due("8 days", man(after(8, "man a 9 20 0;" + law), 0, 1), 21);
            due("13 days", man(after(13, "man a 9 20 0;" + law), 0, 1), 21);
            due("14 days", man(after(14, "man a 9 20 0;" + law), 0, 1), 22);
            due("98", man(after(7, "man a 9 98 0;" + law), 0, 1), 99);
            due("99 at most", man(after(7, "man a 9 99 0;" + law), 0, 1), 99);
            due("a row of 0 isn't reached", man(after(7, "man a 9 8 0;" + law), 0, 1), 8);
        }
    }

    /** A person of this base whose row of so many days breaks. */
    private static WristGoal broken(int row, int base, String law) {
        WristGoal x = Bounds.of("man a 0 " + base + " 0;" + law);
        x.go(row);
        x.goal(0, 99);
        x.wear(0, false);
        x.go(1);
        return x;
    }

    @Says(promise = 15, value = "1 less, 0 at least, if a ROW of 3 at least is BROKEN; else as it is).")
    static void oneLessByABreak() {
        for (String law : new String[] {"", "law habit 1/0;"}) {
            due("a row of 0", man(broken(0, 20, law), 0, 1), 20);
            due("a row of 2", man(broken(2, 20, law), 0, 1), 20);
            due("a row of 3", man(broken(3, 20, law), 0, 1), 19);
            due("a row of 4", man(broken(4, 20, law), 0, 1), 19);
            due("a row of 7: more, then less", man(broken(7, 20, law), 0, 1), 20);
            due("1", man(broken(3, 1, law), 0, 1), 0);
            due("0 at least", man(broken(3, 0, law), 0, 1), 0);
            WristGoal x = broken(3, 20, law);
            x.go(1);
            due("no row to break", man(x, 0, 1), 19);
        }
    }

    @Says(promise = 15, value = "Nothing is LENT any more.")
    static void nothingLentAnyMore() {
        WristGoal x = Bounds.of("man a 9 9 9;man b 9 9 9;");
        x.lend(0, 9);
        x.lend(1, 99);
        x.go(0);
        due("no day went by", x.has(0, 1) + x.has(1, 1), 108);
        x.go(2);
        due("nothing", x.has(0, 1) + x.has(1, 1), 0);
        due("of the first day alone", man(x, 1, 7), 108 + 9);
    }

    @Says(promise = 15, value = "(3) if the number of DAYS that are over can be divided by DAYS of the bet:")
    static void potByDays() {
        for (int days : new int[] {1, 2, 7, 13, 14}) {
            WristGoal x = Bounds.of("man a 0 5 0;bet 10 " + days + ";law habit base;");
            for (int day = 1; day <= 29; day++) {
                x.go(1);
                due("won in " + day, x.has(0, 3), 10 * (day / days));
                due("sum in " + day, man(x, 0, 5), 5 * (day % days));
            }
        }
    }

    @Says(promise = 15, value = "who has the greatest SUM, the first of several, WINS the POT; all SUMS are 0.")
    static void greatestSumWins() {
        WristGoal x = after(1, "man a 0 4 0;man b 0 9 0;man c 0 9 0;bet 10 1;");
        due("a", x.has(0, 3), 0);
        due("b, the first of both", x.has(1, 3), 10);
        due("c", x.has(2, 3), 0);
        due("all sums", man(x, 0, 5) + man(x, 1, 5) + man(x, 2, 5), 0);
        x = after(1, "man a 0 9 0;man b 0 8 0;man c 0 10 0;bet 10 1;");
        due("c by 1", x.has(2, 3), 10);
        x = after(1, "man a 0 0 0;man b 0 0 0;bet 10 1;");
        due("the first of sums of 0", x.has(0, 3), 10);
        due("nobody is there", after(9, "bet 10 1;").count(9), 0);
    }

    @Says(promise = 15, value = "It is the next DAY.")
    static void theNextDay() {
        WristGoal x = Bounds.of("man a 0 0 0;law fair day;");
        for (int day = 0; day < 5; day++) {
            due("day " + day, x.count(4), day);
            due("day of the law", x.law(2, 0), day);
            due("next", x.go(1), day + 1);
        }
        due("days of each law", man(x, 0, 5), 0 + 1 + 2 + 3 + 4);
    }

    @Says(promise = 15, value = "NAMES: base: BASE (not halved);")
    static void baseIsNotHalved() {
        due("fair", man(after(1, "man a 0 31 0;law fair base;rain 100;"), 0, 5), 31);
        due("habit", man(after(1, "man a 0 31 0;law habit base+1;rain 100;"), 0, 1), 32);
        due("push", man(after(1, "man a 46 31 0;law push base;rain 100;"), 0, 7), 46);
        due("push", man(after(1, "man a 47 31 0;law push base;rain 100;"), 0, 7), 15);
        WristGoal x = after(2, "man a 0 31 0;law fair base;law habit 40;");
        due("fair knows the base of its day", man(x, 0, 5), 71);
    }

    @Says(promise = 15, value = "(not halved); goal;")
    static void goalAsItIs() {
        WristGoal x = Bounds.of("man a 7 0 0;man b 8 0 0;law fair goal;");
        x.goal(0, 99);
        x.go(1);
        due("a", man(x, 0, 5), 99);
        due("b", man(x, 1, 5), 8);
    }

    @Says(promise = 15, value = "steps: STEPS by then;")
    static void stepsByThen() {
        WristGoal x = after(1, "man a 60 30 0;law push steps;law fair steps;law habit steps;");
        due("push knows 30, and 30 lack", man(x, 0, 7), 60);
        due("fair knows 60", man(x, 0, 5), 60);
        due("habit knows 60", man(x, 0, 1), 60);
        x = after(1, "man a 61 30 0;law push steps;law fair steps;law habit steps;");
        due("31 lack", man(x, 0, 5), 30);
        x = Bounds.of("man a 0 30 0;law fair steps;law habit steps;");
        x.wear(0, false);
        x.lend(0, 7);
        x.go(1);
        due("lent ones without the band", man(x, 0, 5), 7);
        due("habit", man(x, 0, 1), 7);
        due("halved, if wet", man(after(1, "man a 0 31 0;law fair steps;rain 100;"), 0, 5), 15);
    }

    @Says(promise = 15, value = "row: ROW (of push ahead, else by then);")
    static void rowAheadOrByThen() {
        WristGoal x = Bounds.of("man a 10 10 0;law push row*5;law fair row;law habit 10-row*5;");
        x.go(1);
        due("fair: 1", man(x, 0, 5), 1);
        due("habit: 10 less 5", man(x, 0, 1), 5);
        x.go(1);
        due("push: the row of 1 ahead", man(x, 0, 3), 2);
        due("fair: 2", man(x, 0, 5), 3);
        due("habit: 10 less 10", man(x, 0, 1), 0);
        x.go(1);
        due("push: the row of 2 ahead, 10 lack", man(x, 0, 3), 3);
        x.wear(0, false);
        x.go(1);
        due("fair: 0 by then", man(x, 0, 5), 6);
        due("habit: 0 by then", man(x, 0, 1), 10);
    }

    @Says(promise = 15, value = "lacks: GOAL less STEPS, 0 at least;")
    static void lacksIsNotBelow0() {
        due("push", man(after(1, "man a 50 30 0;law push (lacks=20)*20;"), 0, 3), 1);
        due("fair: 0 behind a push", man(after(1, "man a 50 30 20;law fair lacks+5;"), 0, 5), 5);
        due("fair: 20", man(after(1, "man a 50 30 19;law fair lacks+5;"), 0, 5), 25);
        due("habit: 20", man(after(1, "man a 50 30 19;law habit lacks;"), 0, 1), 20);
        due("1", man(after(1, "man a 50 49 0;law fair lacks+5;"), 0, 5), 6);
        due("0", man(after(1, "man a 50 50 0;law fair lacks+5;"), 0, 5), 5);
        due("0 at least", man(after(1, "man a 50 51 0;law fair lacks+5;"), 0, 5), 5);
        due("0 at least, by law()", Bounds.of("man a 50 99 0;law fair lacks;").law(2, 0), 0);
    }

    @Says(promise = 15, value = "behind: the greatest SUM less that PERSON's (of push, fair as they are ahead of "
        + "that PERSON's own more; of habit by then);")
    static void behindTheGreatest() {
        WristGoal x = after(1, "man a 0 10 0;man b 0 4 0;man c 0 30 0;law habit behind;");
        due("a: nobody is ahead by then", man(x, 0, 1), 0);
        due("b: 10 less 4", man(x, 1, 1), 6);
        due("c: the greatest itself", man(x, 2, 1), 0);
        x = after(1, "man a 0 10 0;man b 0 4 0;law fair steps+behind;");
        due("a's fair: all are 0", man(x, 0, 5), 10);
        due("b's fair: 10 ahead of its own", man(x, 1, 5), 14);
        x.go(1);
        due("a's fair: 14 less 10", man(x, 0, 5), 10 + 10 + 4);
        due("b's fair: 24 less 14", man(x, 1, 5), 14 + 4 + 10);
        due("push of a: 0", man(after(1, "man a 5 4 0;man b 0 9 0;law push 1-behind;"), 0, 3), 1);
        x = after(1, "man a 0 3 0;man b 5 1 0;law push 3+(behind=3);");
        due("push of b: 3 of a's day ahead", man(x, 1, 3), 1);
        x = Bounds.of("man a 0 9 0;man b 0 2 0;law push behind;law habit behind;law fair steps;");
        x.go(1);
        due("law() of b now", x.law(0, 1), 7);
        due("law() of a now", x.law(0, 0), 0);
        due("law() of b's habit now", x.law(1, 1), 7);
    }

    @Says(promise = 15, value = "of habit by then); day.")
    static void dayOfLaws() {
        due("push on day 0", man(after(1, "man a 1 0 9;law push day;"), 0, 3), 0);
        due("push on day 1", man(after(2, "man a 1 0 9;law push day;"), 0, 3), 1);
        due("fair on days 0 and 1", man(after(2, "man a 1 0 9;law fair 10+day;"), 0, 5), 21);
        due("habit on day 4", man(after(5, "man a 1 0 9;law habit day;"), 0, 1), 4);
    }

    @Says(promise = 10, value = "VALUES are longs;")
    static void valuesAreLongs() {
        due("beyond ints", Bounds.value("9999*9999*9999"), 999700029999L);
        due("below ints", Bounds.value("0-9999*9999*9999"), -999700029999L);
        due("two to the 31", Bounds.value("2048*1024*1024"), 2147483648L);
        due("compared as longs", Bounds.value("4096*1024*1024=0"), 0);
        due("not as a long", Bounds.value("not 4096*1024*1024"), 0);
        due("and of longs", Bounds.value("4096*1024*1024 and 4096*1024*1024"), 1);
        due("or of longs", Bounds.value("4096*1024*1024 or 0"), 1);
    }

    @Says(promise = 10, value = "comparisons, and, or, not are 1 or 0 (what isn't 0 is as 1, both sides are worked "
        + "out),")
    static void truthIs1Or0() {
        due("or of 5 and 7", Bounds.value("5 or 7"), 1);
        due("and of 5 and 7", Bounds.value("5 and 7"), 1);
        due("and below 0", Bounds.value("(0-5) and 2"), 1);
        due("not 5", Bounds.value("not 5"), 0);
        due("not below 0", Bounds.value("not (0-5)"), 0);
        due("not 0", Bounds.value("not 0"), 1);
        due("not not 5", Bounds.value("not not 5"), 1);
        due("5<7", Bounds.value("(5<7)+(5<7)"), 2);
        due("the right one of or", Bounds.value("1 or 1/0"), Bounds.NO_LAW);
        due("the right one of and", Bounds.value("0 and 1/0"), Bounds.NO_LAW);
        due("the left one of or", Bounds.value("1/0 or 1"), Bounds.NO_LAW);
        due("the left one of and", Bounds.value("1/0 and 0"), Bounds.NO_LAW);
        due("0 times an ERROR", Bounds.value("0*(1/0)"), Bounds.NO_LAW);
        due("not of an ERROR", Bounds.value("not 1/0"), Bounds.NO_LAW);
        due("an ERROR compared", Bounds.value("1/0=1/0"), Bounds.NO_LAW);
    }

    @Says(promise = 10, value = "/ is cut towards 0;")
    static void divisionIsCut() {
        due("7/2", Bounds.value("7/2"), 3);
        due("-7/2", Bounds.value("(0-7)/2"), -3);
        due("7/-2", Bounds.value("7/(0-2)"), -3);
        due("-7/-2", Bounds.value("(0-7)/(0-2)"), 3);
        due("1/2", Bounds.value("1/2"), 0);
        due("-1/2", Bounds.value("(0-1)/2"), 0);
        due("0/5", Bounds.value("0/5"), 0);
    }

    @Says(promise = 10, value = "ERROR: / by 0,")
    static void divisionBy0() {
        due("1/0", Bounds.value("1/0"), Bounds.NO_LAW);
        due("0/0", Bounds.value("0/0"), Bounds.NO_LAW);
        due("below 0 by 0", Bounds.value("(0-1)/(1-1)"), Bounds.NO_LAW);
        due("by 1", Bounds.value("1/1"), 1);
        due("by -1", Bounds.value("1/(0-1)"), -1);
        WristGoal x = Bounds.of("man a 1 1 1;law fair 12/day;");
        due("day 0", x.law(2, 0), Bounds.NO_LAW);
        x.go(1);
        due("day 1", x.law(2, 0), 12);
        x.go(1);
        due("an ERROR, then 12", man(x, 0, 5), 1 + 12);
    }

    @Says(promise = 10, value = "a value above 10 to the 12 or below 0 by more than that.")
    static void valuesUpTo10ToThe12() {
        String top = "1000*1000*1000*1000";
        long most = 1000000000000L;
        due("by *", Bounds.value(top), most);
        due("by +", Bounds.value("(" + top + "-1)+1"), most);
        due("by + and 1", Bounds.value(top + "+1"), Bounds.NO_LAW);
        due("by -", Bounds.value("0-" + top), -most);
        due("by - and 1", Bounds.value("0-" + top + "-1"), Bounds.NO_LAW);
        due("above by -", Bounds.value(top + "-(0-1)"), Bounds.NO_LAW);
        due("to it by -", Bounds.value("(" + top + "-1)-(0-1)"), most);
        due("below by +", Bounds.value("(0-" + top + ")+(0-1)"), Bounds.NO_LAW);
        due("down to it by +", Bounds.value("(1-" + top + ")+(0-1)"), -most);
        due("above by *", Bounds.value("(1000*1000+1)*(1000*1000)"), Bounds.NO_LAW);
        due("below by *", Bounds.value("(0-1000*1000)*(1000*1000)"), -most);
        due("below by * and more", Bounds.value("(0-1000*1000-1)*(1000*1000)"), Bounds.NO_LAW);
        due("both below 0", Bounds.value("(0-1000*1000)*(0-1000*1000)"), most);
        due("both below 0 and more", Bounds.value("(0-1000*1000)*(0-1000*1000-1)"), Bounds.NO_LAW);
        due("999999*1000001", Bounds.value("(1000*1000-1)*(1000*1000+1)"), most - 1);
        due("beyond longs", Bounds.value("(" + top + ")*(" + top + ")"), Bounds.NO_LAW);
        due("on the way alone", Bounds.value("(" + top + "+1)*0"), Bounds.NO_LAW);
        due("on the way alone", Bounds.value("(" + top + "+1)-1"), Bounds.NO_LAW);
        due("0 times the most", Bounds.value("0*(" + top + ")"), 0);
        due("the most times 0", Bounds.value(top + "*0"), 0);
        due("the most by 1", Bounds.value(top + "/1"), most);
        due("two of them", Bounds.value("1 or " + top + "+1"), Bounds.NO_LAW);
    }

    @Says(promise = 15, value = "Numbers are the last one (at first the seed) times 1103515245 and 12345, without "
        + "what is above 31 bits, by 65536.")
    static void numbersFromTheSeedOn() {
        for (int seed : new int[] {0, 1, 77, 99999}) {
            WristGoal x = Bounds.of("rain 37;seed " + seed + ";");
            long number = seed;
            int wet = 0;
            for (int day = 1; day <= 90; day++) {
                number = next(number);
                wet += number / 65536 % 100 < 37 ? 1 : 0;
                x.go(1);
                due("seed " + seed + " day " + day, x.count(5), wet);
            }
        }
    }

    @Says(promise = 16, value = "AS IT GOES: WET, if rain is 50 at least (no numbers).")
    static void wetAsItGoes() {
        for (int rain : new int[] {0, 1, 49, 50, 51, 100}) {
            WristGoal x = Bounds.of("man a 30 50 0;man b 30 40 0;deed d 0 0 0;bet 5 1;pay 3 26;seed 5;"
                + "rain " + rain + ";");
            boolean wet = rain >= 50;
            due("ahead", x.ahead(0, 3, 0), wet ? 75 : 150);
            due("reaches", x.reaches(0, 9), wet ? -2 : 1);
            due("longest", x.longest(0, 9), wet ? 0 : 9);
            due("moves", x.moves(0, 3, 1), wet ? 75 : 150);
            due("winner", x.winner(0), 0);
            due("needs", x.needs(1), wet ? 6 : 11);
            due("falls", x.falls(0, 9), 0);
            due("earns", x.earns(0, 3, 0), wet ? 0 : 9);
            due("habit", x.habit(0), 0);
            due("tried", x.tried(0, 0, 1), wet ? 45 : 90);
            x.note(1, 0, 50, true);
            due("fits", x.fits(0, 0), wet ? 0 : 1023);
            x.go(1);
            due("by numbers, the seed's first one as ever", x.count(5), next(5) / 65536 % 100 < rain ? 1 : 0);
        }
    }
}

import java.util.NoSuchElementException;

/** Each promise of the document by hand: ordinary calls, the edges that it names, and wrong ones. */
public final class PromisesTest {
    private static int wrong = 0;
    private static int asked = 0;
    private static String promise = "";

    private static void due(String what, long got, long want) {
        asked++;
        if (got != want) {
            wrong++;
            System.out.println(promise + ": " + what + " answered " + got + ", due is " + want);
        }
    }

    private static void due(String what, boolean got, boolean want) {
        due(what, got ? 1 : 0, want ? 1 : 0);
    }

    private static void feedAll(WristGoal x, String text) {
        for (int from = 0; from < text.length(); from += 20) {
            int[] five = new int[5];
            for (int k = 0; k < 20; k++) {
                int sign = from + k < text.length() ? text.charAt(from + k) : ' ';
                five[k / 4] = five[k / 4] << 8 | sign;
            }
            x.feed(five[0], five[1], five[2], five[3], five[4]);
        }
    }

    private static int tell(WristGoal x, String text) {
        feedAll(x, text);
        return x.text(text.length());
    }

    private static WristGoal of(String text) {
        WristGoal x = new WristGoal();
        int lines = tell(x, text);
        due("lines of " + text, lines, text.chars().filter(c -> c == ';').count());
        return x;
    }

    private static void faulty(String text, int fault, int place) {
        WristGoal x = of("man keep 1 2 3;");
        due("text " + text, tell(x, text), -1);
        due("fault of " + text, x.fault(0), fault);
        due("place in " + text, x.fault(1), place);
        due("people stay", x.count(0), 1);
    }

    /** What man() answers, -1001 and -1002 for its two exceptions. */
    private static int manOf(WristGoal x, int man, int what) {
        try {
            return x.man(man, what);
        } catch (IndexOutOfBoundsException e) {
            return -1001;
        } catch (NoSuchElementException e) {
            return -1002;
        }
    }

    public static void main(String[] args) {
        aNewObject();
        feed();
        text();
        faultsOfTokens();
        faultsOfMuch();
        faultsOfTelling();
        faultsOfE();
        named();
        man();
        hasDeedTimes();
        law();
        lawErrors();
        wearGoalPlan();
        lend();
        goByNumbers();
        goFar();
        aDay();
        namesOfLaws();
        aheadReachesLongest();
        moves();
        deeds();
        leadsWinnerRank();
        needs();
        rests();
        fallsEarns();
        falseOnes();
        habit();
        breaks();
        notes();
        chance();
        tried();
        undo();
        image();
        count();
        System.out.println("PromisesTest: " + asked + " asked, " + wrong + " wrong");
        if (wrong > 0) {
            System.exit(1);
        }
    }

    private static void aNewObject() {
        promise = "1 a new object";
        WristGoal x = new WristGoal();
        for (int what = 0; what <= 13; what++) {
            due("count(" + what + ")", x.count(what), 0);
        }
        due("fault(0)", x.fault(0), 0);
        due("fault(1)", x.fault(1), -1);
        due("text(0)", x.text(0), 0);
        due("text(1)", x.text(1), -2);
        due("man", manOf(x, 0, 0), -1001);
        due("has", x.has(0, 0), -1);
        due("go(99)", x.go(99), 99);
        due("leads", x.leads(), -1);
        due("winner(1)", x.winner(1), -1);
        due("back", x.back(), -1);
        due("undo", x.undo(), -1);
        due("tried 2", x.tried(2, 0, 1), -1);
        due("tried 0", x.tried(0, 0, 1), 0);
        due("keep", x.keep(), 99);
    }

    private static void feed() {
        promise = "2 feed";
        WristGoal x = new WristGoal();
        for (int k = 1; k <= 35; k++) {
            due("feed " + k, x.feed(0x20202020, 0x20202020, 0x20202020, 0x20202020, 0x20202020), 20 * k);
        }
        due("feed 36", x.feed(1, 2, 3, 4, 5), -1);
        due("text(701)", x.text(701), -2);
        due("text(700)", x.text(700), 0);
        due("feed again", x.feed(1, 2, 3, 4, 5), 20);
        due("bytes of 0", x.text(20), -1);
        due("at the first", x.fault(1), 0);
        x.feed(0x73656564, 0x20373b20, 0x20202020, 0x20202020, 0xff202020);
        due("the highest byte first", x.text(20), -1);
        due("byte 255 is none", x.fault(1), 16);
        x.feed(0x73656564, 0x20373b20, 0x20202020, 0x20202020, 0xff202020);
        due("only n bytes", x.text(16), 1);
    }

    private static void text() {
        promise = "3 text";
        WristGoal x = of("man a 9 5 5;deed d 1 1 1;");
        feedAll(x, "rain 9;");
        due("too many", x.text(21), -2);
        due("below 0", x.text(Integer.MIN_VALUE), -2);
        due("the tape stays", x.text(7), 1);
        due("no men", x.count(0), 0);
        x = of("man a 9 5 5;deed d 1 1 1;bet 5 5;");
        x.wear(0, false);
        x.lend(0, 5);
        x.keep();
        x.go(2);
        x.goal(0, 3);
        x.note(1, 0, 1, true);
        x.known(0);
        due("a faulty one", tell(x, "man a 9 5;"), -1);
        due("all stays: day", x.count(4), 2);
        due("all stays: notes", x.count(11), 1);
        due("all stays: undo", x.count(13), 1);
        due("all stays: image", x.back(), 0);
        due("all stays: lent", x.has(0, 1), 5);
        due("lines", tell(x, "\nman  a 9 5 5 ;\n"), 1);
        due("day", x.count(4), 0);
        due("notes", x.count(11), 0);
        due("known", x.count(12), 0);
        due("undo", x.undo(), -1);
        due("image", x.back(), -1);
        due("band", x.has(0, 0), 1);
        due("lent", x.has(0, 1), 0);
        due("deeds", x.count(1), 0);
        due("bet", x.winner(1), 7);
        x.note(1, 0, 99, true);
        due("all known again", x.count(12), 1);
        x = of("man a 9 9 5;rain 100;bet 5 1;pay 3 1;");
        x.go(3);
        x.wear(0, false);
        x.go(1);
        tell(x, "man a 9 9 5;");
        int[] fresh = all(x, 1);
        int[] due = all(of("man a 9 9 5;"), 1);
        for (int k = 0; k < due.length; k++) {
            due("all is as of a new text " + k, fresh[k], due[k]);
        }
    }

    private static void faultsOfTokens() {
        promise = "4 fault 1";
        faulty("#", 1, 0);
        faulty(" \n;", 1, 2);
        faulty("man a 1 1 1", 1, 11);
        faulty("man a 1 1 1 \n ", 1, 14);
        faulty("man a 1 1", 1, 9);
        faulty("man", 1, 3);
        faulty("law push", 1, 8);
        faulty("law push (1", 1, 11);
        faulty("man a 1 1 1;;", 1, 12);
        faulty("man day 1 1 1;", 1, 4);
        faulty("man abcdefg 1 1 1;", 1, 4);
        faulty("man 5 1 1 1;", 1, 4);
        faulty("man a b 1 1;", 1, 6);
        faulty("man a 1 1 1 1;", 1, 12);
        faulty("man A 1 1 1;", 1, 4);
        faulty("man a\t1 1 1;", 1, 5);
        faulty("people a 1 1 1;", 1, 0);
        faulty("peoples a 1 1 1;", 1, 0);
        faulty("bet 1;", 1, 5);
        faulty("rain x;", 1, 5);
        faulty("law base 1;", 1, 4);
        faulty("plan man d 1;", 1, 5);
        faulty("(man a 1 1 1);", 1, 0);
        due("six letters", of("man abcdef 1 1 1;").count(0), 1);
        due("blanks need not be", of("man a1 2 3;rain07;").count(0), 1);
        WristGoal x = of("");
        due("another what", x.fault(2), -1);
        due("another what", x.fault(-1), -1);
        tell(x, "x");
        due("-2 leaves the fault", x.text(5), -2);
        due("-2 leaves the fault", x.fault(0), 1);
        due("and none behind it", tell(x, ""), 0);
        due("no fault", x.fault(0), 0);
        due("no place", x.fault(1), -1);
    }

    private static void faultsOfMuch() {
        promise = "4 fault 2";
        String men = "man a 1 1 1;man b 1 1 1;man c 1 1 1;man d 1 1 1;man e 1 1 1;";
        String deeds = "deed a 1 1 1;deed b 1 1 1;deed c 1 1 1;deed d 1 1 1;deed e 1 1 1;deed f 1 1 1;";
        due("five", of(men).count(0), 5);
        faulty(men + " man a", 2, men.length() + 1);
        due("six", of(deeds).count(1), 6);
        faulty(deeds + "deed a", 2, deeds.length());
        StringBuilder plans = new StringBuilder(men + deeds);
        for (int k = 0; k < 12; k++) {
            plans.append("plan ").append((char) ('a' + k % 2)).append(' ').append((char) ('a' + k / 2)).append(" 9;");
        }
        due("twelve", of(plans.toString()).count(2), 12);
        faulty(plans + "plan x", 2, plans.length());
        faulty("man a 99 99 99;man b 0 100 1;", 2, 23);
        faulty("man a 99999999999999999999 0 0;", 2, 6);
        faulty("man a 4294967297 0 0;", 2, 6);
        faulty("deed d 20 20 9;deed e 20 21 9;", 2, 25);
        faulty("man a 1 1 1;deed d 1 1 1;plan a d 10;", 2, 34);
        faulty("bet 999 14;bet", 3, 11);
        faulty("pay 99 999;pay", 3, 11);
        faulty("rain 100;rain", 3, 9);
        faulty("seed 99999;seed", 3, 11);
        faulty("seed 100000;", 2, 5);
        faulty("man a 1 1 100;", 2, 10);
        faulty("deed d 21 1 1;", 2, 7);
        faulty("deed d 1 1 10;", 2, 11);
        faulty("bet 1000 1;", 2, 4);
        faulty("bet 1 15;", 2, 6);
        faulty("pay 100 1;", 2, 4);
        faulty("pay 1 1000;", 2, 6);
        faulty("rain 101;", 2, 5);
        due("the least of all", of("man a 0 0 0;deed d 0 0 0;bet 0 1;pay 0 0;rain 0;seed 0;").count(1), 1);
        faulty("bet 000 00;", 2, 8);
        due("zeros ahead", manOf(of("man a 007 08 09;"), 0, 1), 8);
    }

    private static void faultsOfTelling() {
        promise = "4 faults 3 and 4";
        due("names of their kind", of("man a 1 1 1;deed a 1 1 1;plan a a 1;").times(0, 0), 1);
        faulty("deed a 1 1 1;deed a 1 1 1;", 3, 18);
        faulty("deed a 1 1 1;plan a a 1;", 4, 18);
        faulty("man a 1 1 1;man b 1 1 1;deed x 1 1 1;plan a x 1;plan b x 1;plan b x", 3, 66);
        faulty("law push 1;law habit 1;law fair 1;law habit", 3, 38);
        faulty("man a 1 1 1;deed d 1 1 1;plan a d 1;plan d a 1;", 4, 41);
    }

    private static void faultsOfE() {
        promise = "4 faults of E";
        String deep = "law push ((((((((1))))))))+((((((((1))))))));";
        due("eight open", of(deep).count(3), 3);
        faulty("law push (((((((((1)))))))));", 2, 17);
        faulty("law push (1)(", 1, 12);
        faulty("law push ()", 1, 10);
        faulty("law push 1);", 1, 10);
        faulty("law push (1;", 1, 11);
        faulty("law push 10000;", 2, 9);
        faulty("law push 1<2<3;", 1, 12);
        faulty("law push (1<2)<3=4;", 1, 16);
        faulty("law push 1< =2;", 1, 12);
        faulty("law push 1=<2;", 1, 11);
        faulty("law push 1==2;", 1, 11);
        faulty("law push 1><2;", 1, 11);
        faulty("law push 1+not 2;", 1, 11);
        faulty("law push 1<not 2;", 1, 11);
        faulty("law push -1;", 1, 9);
        faulty("law push 1 not 2;", 1, 11);
        faulty("law push not;", 1, 12);
        faulty("law push x;", 1, 9);
        faulty("law push goal base;", 1, 14);
        faulty("law push 1 2;", 1, 11);
        due("a law for each", of("law push 1<2 and 2<3;law habit(1<2)<3;law fair not not 9999;").count(3), 7 + 5 + 3);
        StringBuilder most = new StringBuilder("law push 1");
        for (int k = 0; k < 31; k++) {
            most.append("+1");
        }
        due("63", of(most + ";").count(3), 63);
        WristGoal x = of("man a 1 1 1;law fair 5+5;");
        for (int k = 0; k < 3; k++) {
            tell(x, "man a 1 1 1;" + most + ";law fair 7;");
            due("all 64 are worked out: push", x.law(0, 0), 32);
            due("all 64 are worked out: fair", x.law(2, 0), 7);
        }
        due("64 in two", of(most + ";law fair 1;").count(3), 64);
        due("64 with not", of(most.toString().replace("push ", "push not ") + ";").count(3), 64);
        faulty(most + "+1;", 2, most.length() + 1);
        faulty(most + ";law fair 1+1;", 2, most.length() + 11);
        faulty(most + ";law fair not 1;", 2, most.length() + 14);
        faulty(most + ";law fair (1)<1;", 2, most.length() + 13);
        faulty(most + ";law fair 1 1;", 1, most.length() + 12);
        due("nots", of("law push not not not not not not not not not not not not 7;").count(3), 13);
    }

    private static void named() {
        promise = "5 named";
        WristGoal x = of("man al 1 1 1;man abcdef 1 1 1;deed al 1 1 1;deed zzzzzz 1 1 1;");
        int al = 1 << 25 | 12 << 20;
        due("al", x.named(0, al), 0);
        due("abcdef", x.named(0, 1 << 25 | 2 << 20 | 3 << 15 | 4 << 10 | 5 << 5 | 6), 1);
        due("the deed", x.named(1, al), 0);
        int zs = 26 << 25 | 26 << 20 | 26 << 15 | 26 << 10 | 26 << 5 | 26;
        due("zzzzzz", x.named(1, zs), 1);
        due("no such man", x.named(0, zs), -1);
        due("more bits", x.named(1, zs | 1 << 30), -1);
        due("0", x.named(0, 0), -1);
        due("shorter", x.named(0, 1 << 25), -1);
        due("another what", x.named(2, al), -1);
        due("another what", x.named(-1, al), -1);
    }

    private static void man() {
        promise = "6 man";
        WristGoal x = of("man al 50 40 9;man bo 30 30 7;bet 5 14;");
        due("goal", manOf(x, 0, 0), 50);
        due("base", manOf(x, 0, 1), 40);
        due("push", manOf(x, 0, 2), 9);
        x.go(3);
        x.wear(1, false);
        x.go(1);
        due("row", manOf(x, 1, 3), 0);
        due("broken", manOf(x, 1, 4), 1);
        due("base less by a row of 3 broken", manOf(x, 1, 1), 29);
        due("sum", manOf(x, 1, 5), 90);
        due("walked", manOf(x, 1, 6), 120);
        due("steps", manOf(x, 1, 7), 90);
        due("al's sum", manOf(x, 0, 5), 160);
        due("no such person", manOf(x, 2, 0), -1001);
        due("no such person", manOf(x, -1, 0), -1001);
        due("no such person, nor what", manOf(x, Integer.MIN_VALUE, 99), -1001);
        due("no such what", manOf(x, 0, 8), -1002);
        due("no such what", manOf(x, 1, -1), -1002);
    }

    private static void hasDeedTimes() {
        promise = "7 has, 8 deed, 9 times";
        WristGoal x = of("man al 50 40 9;deed d 20 19 8;deed e 0 1 2;plan al e 9;bet 7 2;pay 3 40;");
        due("band", x.has(0, 0), 1);
        x.wear(0, false);
        due("no band", x.has(0, 0), 0);
        x.lend(0, 41);
        due("lent", x.has(0, 1), 41);
        x.go(1);
        due("lent no more", x.has(0, 1), 0);
        due("pence", x.has(0, 2), 3);
        due("nothing won", x.has(0, 3), 0);
        x.go(1);
        due("pence", x.has(0, 2), 3);
        due("won", x.has(0, 3), 7);
        due("no such what", x.has(0, 4), -1);
        due("no such what", x.has(0, -1), -1);
        due("no such person", x.has(1, 0), -1);
        due("true", x.deed(0, 0), 20);
        due("counted", x.deed(0, 1), 19);
        due("minutes", x.deed(0, 2), 8);
        due("no such what", x.deed(0, 3), -1);
        due("no such deed", x.deed(2, 0), -1);
        due("no such deed", x.deed(-1, 0), -1);
        due("times", x.times(0, 1), 9);
        due("without a plan", x.times(0, 0), 0);
        due("no such deed", x.times(0, 2), -1);
        due("no such person", x.times(1, 0), -1);
    }

    private static void law() {
        promise = "10 law";
        WristGoal x = of("man a 50 30 0;man b 9 20 0;deed d 1 4 1;plan a d 2;"
            + "law push 0-lacks*100;law fair steps;law habit day*1000+row*100+behind;");
        due("push isn't bounded", x.law(0, 0), -1200);
        x.lend(0, 9);
        due("lent counts", x.law(2, 0), 47);
        x.wear(0, false);
        due("without the band", x.law(2, 0), 9);
        due("b", x.law(2, 1), 20);
        x.go(1);
        due("habit now", x.law(1, 1), 1000 + 100);
        due("habit of a", x.law(1, 0), 1000 + 20 - 9);
        due("no such what", x.law(3, 0), Long.MIN_VALUE);
        due("no such what", x.law(-1, 0), Long.MIN_VALUE);
        due("no such person", x.law(0, 2), Long.MIN_VALUE);
        due("no such law", of("man a 1 1 1;law fair 1;").law(0, 0), Long.MIN_VALUE);
        due("not wet", of("man a 1 50 1;rain 100;law fair steps;").law(2, 0), 50);
        due("order", of("man a 1 1 1;law fair 2+3*4-10/3/2;").law(2, 0), 13);
        due("cut towards 0", of("man a 1 1 1;law fair (0-7)/2;").law(2, 0), -3);
        due("not binds less than =", of("man a 1 1 1;law fair not 1=2;").law(2, 0), 1);
        due("and ahead of or", of("man a 1 1 1;law fair 5 or 0 and 0;").law(2, 0), 1);
        due("not ahead of and", of("man a 1 1 1;law fair not 0 and 0;").law(2, 0), 0);
        due("comparisons", of("man a 1 1 1;law fair (1<2)+(2<=2)*2+(3=4)*4+(3<>4)*8+(5>=6)*16+(6>5)*32;")
            .law(2, 0), 1 + 2 + 8 + 32);
        due("comparisons that aren't so", of("man a 1 1 1;law fair (2<2)+(3<=2)+(3=4)+(4<>4)+(5>=6)+(6>6)"
            + "+(1 and 0)+(0 or 0);").law(2, 0), 0);
        due("minus from the left", of("man a 1 1 1;law fair 9-3-2;").law(2, 0), 4);
    }

    private static void lawErrors() {
        promise = "10 law with an ERROR";
        due("/ by 0", of("man a 1 1 1;law fair 1/(1-1);").law(2, 0), Long.MIN_VALUE);
        due("both sides are worked out", of("man a 1 1 1;law fair 1 or 1/0;").law(2, 0), Long.MIN_VALUE);
        due("10 to the 12", of("man a 1 1 1;law fair 1000*1000*1000*1000;").law(2, 0), 1000000000000L);
        due("and 1", of("man a 1 1 1;law fair 1000*1000*1000*1000+1;").law(2, 0), Long.MIN_VALUE);
        due("below", of("man a 1 1 1;law fair 0-1000*1000*1000*1000;").law(2, 0), -1000000000000L);
        due("below by more", of("man a 1 1 1;law fair 0-1000*1000*1000*1000-1;").law(2, 0), Long.MIN_VALUE);
        due("10 to the 12 by +", of("man a 1 1 1;law fair 999*1001*(999*1001)+(2*999*1001+1);").law(2, 0), 1000000000000L);
        due("below by +", of("man a 1 1 1;law fair (0-1000*1000*1000*999)+(0-1000*1000*1000);").law(2, 0),
            -1000000000000L);
        due("below by + and more", of("man a 1 1 1;law fair (0-1000*1000*1000*1000)+(0-1);").law(2, 0), Long.MIN_VALUE);
        due("above by -", of("man a 1 1 1;law fair 1000*1000*1000*1000-(0-1);").law(2, 0), Long.MIN_VALUE);
        due("10 to the 12 by -", of("man a 1 1 1;law fair 1000*1000*1000*1000-0;").law(2, 0), 1000000000000L);
        due("below by *", of("man a 1 1 1;law fair 1000*1000*(0-1000*1000);").law(2, 0), -1000000000000L);
        due("beyond longs", of("man a 1 1 1;law fair 1000*1000*1000*1000*(1000*1000*1000*1000)*0;").law(2, 0),
            Long.MIN_VALUE);
        due("just above", of("man a 1 1 1;law fair (0-9999*9999)*(101*100-99);").law(2, 0), -9999L * 9999 * 10001);
        due("above", of("man a 1 1 1;law fair (0-9999*9999)*(101*100);").law(2, 0), Long.MIN_VALUE);
        WristGoal x = of("man a 50 40 12;law push 1/0;law habit 1/0;law fair 1/0;");
        x.go(7);
        due("PUSH in place of it", manOf(x, 0, 7), 350);
        due("BASE as without", manOf(x, 0, 1), 41);
        x.go(1);
        due("STEPS in place of it", manOf(x, 0, 5), 50);
    }

    private static void wearGoalPlan() {
        promise = "11 wear, 12 goal, 13 plan";
        WristGoal x = of("man a 50 30 5;deed d 3 4 1;deed e 1 1 1;plan a d 2;");
        due("it is so", x.wear(0, true), false);
        due("off", x.wear(0, false), true);
        due("it is so", x.wear(0, false), false);
        due("on", x.wear(0, true), true);
        due("no such one", x.wear(1, false), false);
        due("no such one", x.wear(-1, false), false);
        due("goal", x.goal(0, 99), true);
        due("it is so", x.goal(0, 99), false);
        due("beyond", x.goal(0, 100), false);
        due("below", x.goal(0, -1), false);
        due("no such one", x.goal(1, 5), false);
        due("goal 0", x.goal(0, 0), true);
        due("it stands", manOf(x, 0, 0), 0);
        due("plan", x.plan(0, 0, 9), true);
        due("it is so", x.plan(0, 0, 9), false);
        due("beyond", x.plan(0, 0, 10), false);
        due("below", x.plan(0, 0, -1), false);
        due("none", x.plan(0, 0, 0), true);
        due("without a plan", x.plan(0, 1, 1), true);
        due("without a plan it is 0", x.plan(0, 1, 1), false);
        due("no such deed", x.plan(0, 2, 1), false);
        due("no such person", x.plan(1, 0, 1), false);
        due("steps", x.ahead(0, 1, 0), 31);
        due("plans told", x.count(2), 1);
    }

    private static void lend() {
        promise = "14 lend";
        WristGoal x = of("man a 99 30 5;");
        due("0", x.lend(0, 0), -1);
        due("100", x.lend(0, 100), -1);
        due("no such person", x.lend(1, 1), -1);
        for (int k = 1; k <= 10; k++) {
            due("99", x.lend(0, 99), 99 * k);
        }
        due("more than 999", x.lend(0, 10), -1);
        due("999", x.lend(0, 9), 999);
        due("1000", x.lend(0, 1), -1);
        x.go(1);
        due("steps", manOf(x, 0, 7), 1029);
        due("sum is 999 at most", manOf(x, 0, 5), 999);
        due("walked", manOf(x, 0, 6), 30);
        due("row", manOf(x, 0, 3), 1);
        x.wear(0, false);
        x.lend(0, 98);
        x.go(1);
        due("one lacks, without the band nobody pushes", manOf(x, 0, 4), 1);
        x.lend(0, 99);
        x.go(1);
        due("reached without the band", manOf(x, 0, 3), 1);
    }

    /** The days of a seed, by the words of the document. */
    private static int wetDays(long seed, int n, int rain) {
        long number = seed;
        int wet = 0;
        for (int k = 0; k < n; k++) {
            number = (number * 1103515245L + 12345L) % 2147483648L;
            wet += number / 65536 % 100 < rain ? 1 : 0;
        }
        return wet;
    }

    private static void goByNumbers() {
        promise = "15 go";
        WristGoal x = of("man a 50 51 0;rain 40;seed 4711;");
        due("0 days", x.go(0), 0);
        due("99 days", x.go(99), 99);
        due("wet", x.count(5), wetDays(4711, 99, 40));
        due("more", x.go(50), 149);
        due("wet", x.count(5), wetDays(4711, 149, 40));
        due("100", x.go(100), -1);
        due("-1", x.go(-1), -1);
        due("none went by", x.count(4), 149);
        x = of("rain 100;");
        x.go(9);
        due("always", x.count(5), 9);
        x = of("seed 5;");
        x.go(9);
        due("never", x.count(5), 0);
        x = of("man a 9 41 0;rain 100;");
        x.go(1);
        due("half, cut", manOf(x, 0, 6), 20);
        x = of("rain 1;");
        x.go(1);
        due("the first number of seed 0 is 0", x.count(5), 1);
    }

    private static void goFar() {
        promise = "15 go far";
        WristGoal x = of("man a 9 9 0;pay 99 9;bet 999 1;");
        for (int k = 0; k < 100; k++) {
            due("99", x.go(99), 99 * (k + 1));
        }
        due("behind 9900", x.go(1), -1);
        due("0 days", x.go(0), 9900);
        due("row", manOf(x, 0, 3), 9900);
        due("base, by sevens", manOf(x, 0, 1), 99);
        due("pence", x.has(0, 2), 99 * 9900);
        due("won", x.has(0, 3), 999 * 9900);
        x.keep();
        due("ahead still", x.ahead(0, 60, 2), 9960);
    }

    private static void aDay() {
        promise = "a DAY";
        WristGoal x = of("man a 50 39 10;man b 50 40 10;man c 0 0 0;deed d 7 0 1;plan b d 1;pay 2 50;bet 11 3;");
        x.go(1);
        due("11 lack of 10", manOf(x, 0, 7), 39);
        due("10 lack of 10", manOf(x, 1, 7), 50);
        due("walked and true ones", manOf(x, 1, 6), 57);
        due("goal 0 is reached", manOf(x, 2, 3), 1);
        due("paid from 50 on", x.has(1, 2), 2);
        due("not paid", x.has(0, 2), 0);
        x.go(1);
        due("sum", manOf(x, 1, 5), 100);
        x.go(1);
        due("sums are 0", manOf(x, 1, 5), 0);
        due("b wins", x.has(1, 3), 11);
        x.go(4);
        due("7 in a row", manOf(x, 1, 1), 41);
        due("c, too", manOf(x, 2, 1), 1);
        due("a never reached it", manOf(x, 0, 1), 39);
        x.wear(1, false);
        x.go(1);
        due("a row of 7 broken", manOf(x, 1, 1), 40);
        x.wear(1, true);
        x.go(2);
        x.wear(1, false);
        x.go(1);
        due("a row of 2 broken", manOf(x, 1, 1), 40);
        due("broken twice", manOf(x, 1, 4), 2);
        due("pots without a bet are 0", of("man a 1 1 1;").earns(0, 7, 1), 0);
        x = of("man a 0 0 0;law habit 0-5;law fair 5000;");
        x.go(1);
        due("fair is 999 at most", manOf(x, 0, 5), 999);
        due("habit is 0 at least", manOf(x, 0, 1), 0);
        x = of("man a 0 5 0;law habit 100;law fair 0-1;");
        x.go(1);
        due("fair is 0 at least", manOf(x, 0, 5), 0);
        due("habit is 99 at most", manOf(x, 0, 1), 99);
        due("the first of several wins", of("man a 9 9 0;man b 9 9 0;bet 5 1;").winner(0), 0);
        x = of("man a 9 9 0;law habit 98;");
        x.go(7);
        due("a law in place of sevens", manOf(x, 0, 1), 98);
    }

    private static void namesOfLaws() {
        promise = "NAMES";
        WristGoal x = of("man a 0 31 0;law fair base;rain 100;");
        x.go(1);
        due("base isn't halved", manOf(x, 0, 5), 31);
        x = of("man a 40 31 9;law push steps*(lacks=9);law fair steps+lacks*100;");
        x.go(1);
        due("push knows steps ahead, fair steps behind it", manOf(x, 0, 5), 40);
        x = of("man a 40 31 0;law push row*9;law fair row;");
        x.lend(0, 9);
        x.go(1);
        due("fair: row by then", manOf(x, 0, 5), 1);
        x.go(1);
        due("push: row ahead", manOf(x, 0, 3), 2);
        x = of("man a 0 30 0;man b 0 20 0;man c 0 9 0;law fair steps+behind;law habit behind;");
        x.go(1);
        due("a was ahead of all", manOf(x, 0, 5), 30);
        due("b: 20 and 30", manOf(x, 1, 5), 50);
        due("c: 9 and 50", manOf(x, 2, 5), 59);
        due("habit of a: behind nobody by then", manOf(x, 0, 1), 0);
        due("habit of b: behind nobody by then", manOf(x, 1, 1), 0);
        x.go(1);
        due("habit of a: 59 less (30 and 0 and 29)", manOf(x, 0, 1), 0);
        due("habit of b: 59 less (50 and 0 and 9)", manOf(x, 1, 1), 0);
        x = of("man a 5 1 9;man b 9 1 0;law push 99-behind;law fair 50;law habit day;");
        x.go(1);
        due("push of b with behind 50", manOf(x, 1, 3), 1);
        due("day 0", manOf(x, 1, 1), 0);
        x.go(5);
        due("day 5", manOf(x, 1, 1), 5);
    }

    private static void aheadReachesLongest() {
        promise = "16 ahead, 17 reaches, 18 longest";
        WristGoal x = of("man a 50 50 3;man b 60 10 0;deed d 5 2 1;plan a d 1;law habit base+(goal=60)*5;rain 49;");
        due("49 of a hundred is dry as it goes", x.ahead(0, 2, 0), 104);
        due("walked", x.ahead(0, 2, 1), 110);
        due("row", x.ahead(0, 2, 2), 2);
        due("base", x.ahead(1, 2, 3), 20);
        due("0 days: steps", x.ahead(0, 0, 0), 0);
        due("0 days: base", x.ahead(1, 0, 3), 10);
        due("60 days", x.ahead(1, 60, 3), 99);
        due("61 days", x.ahead(1, 61, 3), -1);
        due("-1 days", x.ahead(1, -1, 3), -1);
        due("what 4", x.ahead(1, 1, 4), -1);
        due("what -1", x.ahead(1, 1, -1), -1);
        due("no such person", x.ahead(2, 1, 0), -1);
        due("today", x.reaches(0, 1), 1);
        due("at last", x.reaches(1, 99), 11);
        due("11 are enough", x.reaches(1, 11), 11);
        due("10 are not", x.reaches(1, 10), -2);
        due("0 days", x.reaches(1, 0), -1);
        due("100 days", x.reaches(1, 100), -1);
        due("no such person", x.reaches(-1, 5), -1);
        due("longest", x.longest(1, 15), 5);
        x.go(3);
        due("counted on", x.longest(0, 4), x.man(0, 3) + 4);
        x.wear(0, false);
        due("that of now", x.longest(0, 4), x.man(0, 3));
        due("0 days", x.longest(0, 0), x.man(0, 3));
        due("100 days", x.longest(0, 100), -1);
        due("no such person", x.longest(2, 1), -1);
        due("50 of a hundred is wet as it goes", of("man a 50 51 3;rain 50;").ahead(0, 1, 0), 25);
        due("nothing changes by it", x.count(4), 3);
    }

    private static void moves() {
        promise = "19 moves";
        WristGoal x = of("man a 10 30 12;man b 5 5 0;");
        due("goal", x.moves(0, 1, 0), 42);
        due("how much", x.moves(0, 1, 1), 42);
        due("no push: the first of several", x.moves(1, 1, 0), 0);
        due("7 days: base grows by rows", x.moves(1, 8, 0), 0);
        due("7 days: how much", x.moves(1, 8, 1), 41);
        due("60 days", x.moves(0, 60, 1) >= 60 * 42, true);
        due("0 days", x.moves(0, 0, 0), -1);
        due("61 days", x.moves(0, 61, 0), -1);
        due("what 2", x.moves(0, 1, 2), -1);
        due("no such person", x.moves(2, 1, 0), -1);
        x.wear(0, false);
        due("without the band", x.moves(0, 3, 1), 90);
    }

    private static void deeds() {
        promise = "20 deeds";
        WristGoal x = of("man a 50 40 99;man b 99 0 99;deed d 0 5 2;deed e 0 10 4;deed f 0 3 1;deed g 20 0 0;"
            + "deed h 0 20 0;rain 100;plan a h 0009;");
        x.plan(0, 4, 0);
        x.lend(0, 50);
        x.wear(0, false);
        due("minutes", x.deeds(0, 4), 4);
        due("the first by deeds", x.deeds(0, 0), 0);
        due("second", x.deeds(0, 1), 0);
        due("third", x.deeds(0, 2), 4);
        due("fourth", x.deeds(0, 3), 0);
        due("by none", x.deeds(1, 4), -3);
        due("by none", x.deeds(1, 3), -3);
        due("what 5", x.deeds(0, 5), -1);
        due("what -1", x.deeds(0, -1), -1);
        due("no such person", x.deeds(2, 0), -1);
        x.plan(0, 4, 1);
        due("planned ones count", x.deeds(0, 4), 0);
        x = of("man a 99 20 0;deed d 1 5 1;");
        due("not so many deeds", x.deeds(0, 1), -2);
        due("though by none", x.deeds(0, 3), -2);
        due("by none of those there are", x.deeds(0, 0), -3);
        due("minutes by none", x.deeds(0, 4), -3);
        x.goal(0, 40);
        due("four times", x.deeds(0, 0), 4);
        due("several", of("man a 10 0 0;deed d 1 5 1;deed e 1 5 1;").deeds(0, 0), 0);
        due("several", of("man a 10 0 0;deed d 1 5 1;deed e 1 5 1;").deeds(0, 1), 2);
    }

    private static void leadsWinnerRank() {
        promise = "21 leads, 22 winner, 26 rank";
        WristGoal x = of("man a 9 20 0;man b 9 30 0;man c 9 30 0;bet 10 4;");
        due("all 0: the first", x.leads(), 0);
        due("rank", x.rank(2), 2);
        x.go(1);
        due("leads", x.leads(), 1);
        due("rank of a", x.rank(0), 2);
        due("rank of b", x.rank(1), 0);
        due("rank of c", x.rank(2), 1);
        due("winner", x.winner(0), 1);
        due("in 3", x.winner(1), 3);
        x.wear(1, false);
        due("winner then", x.winner(0), 2);
        x.go(3);
        due("in 4", x.winner(1), 4);
        due("c won it", x.has(2, 3), 10);
        due("what 2", x.winner(2), -1);
        due("what -1", x.winner(-1), -1);
        due("no such person", x.rank(3), -1);
        due("no such person", x.rank(-1), -1);
        due("without a bet", of("man a 1 1 1;").winner(1), 7);
        due("wet as it goes", of("man a 0 50 0;man b 30 0 30;rain 50;bet 1 1;").winner(0), 1);
    }

    private static void needs() {
        promise = "23 needs";
        WristGoal x = of("man a 0 20 0;man b 0 30 0;man c 0 20 0;bet 10 4;");
        due("a", x.needs(0), 40);
        due("b", x.needs(1), 0);
        due("c, behind b", x.needs(2), 41);
        due("no such person", x.needs(3), -1);
        due("no such person", x.needs(-1), -1);
        due("by none", of("man a 0 0 0;man b 1 1 0;law fair 999*goal;bet 1 2;").needs(0), -2);
        due("1000 are too many", of("man a 1 1 0;man b 0 0 0;law fair 999*goal;bet 1 1;").needs(1), -2);
        due("1000 are too many", of("man a 1 1 0;man b 0 0 0;law fair 999*goal+behind*0;bet 1 1;").needs(1), -2);
        due("999, one by one", of("man a 0 0 0;man b 1 1 0;law fair 999*goal+behind*0;bet 1 1;").needs(0), 999);
        due("999 are enough", of("man a 0 0 0;man b 1 1 0;law fair 999*goal;bet 1 1;").needs(0), 999);
        due("b, behind, comes up to 50", of("man a 50 10 0;man b 50 30 0;law push 99*(behind>0);bet 1 1;").needs(0), 40);
        due("20 do, 21 don't, 40 do", of("man a 50 10 0;man b 50 30 0;law push 99*(behind>30);bet 1 1;").needs(0), 20);
    }

    private static void rests() {
        promise = "24 rests, 25 rest";
        WristGoal x = of("man a 0 20 0;man b 0 50 0;man c 0 5 0;bet 5 1;");
        due("a can't win for 9", x.rests(0, 1), 1);
        due("both stay", x.rest(0, 1, 0), 0);
        due("no more", x.rest(0, 1, 1), -2);
        due("k below 0", x.rest(0, 1, -1), -1);
        due("alike", x.rest(1, 1, 0), -1);
        due("alike", x.rests(1, 1), -1);
        due("no such", x.rests(0, 3), -1);
        due("no such", x.rest(3, 0, 0), -1);
        due("no such, though there are no so many", x.rest(0, 3, 99), -1);
        x = of("man a 0 20 0;man b 0 5 0;man c 0 50 0;bet 12 1;");
        due("a wins by 30 for 9 of 12", x.rests(0, 1), 1);
        due("a's three tens", x.rest(0, 1, 0), 30);
        due("the other way round", x.rest(1, 0, 0), 3);
        x = of("man a 0 20 0;man b 0 5 0;man c 0 53 0;bet 13 1;");
        due("33 lack", x.rest(0, 1, 0), 40);
        due("33 lack the second one", x.rest(1, 0, 0), 4);
        due("a and b overbid each other", of("man a 0 20 0;man b 0 30 0;man c 0 50 0;bet 12 1;").rests(0, 1), 0);
        x = of("man a 0 20 0;man b 0 20 0;bet 3 1;");
        due("3 for 3: b is as well off either way", x.rests(0, 1), 2);
        due("none of both", x.rest(0, 1, 0), 0);
        due("b alone", x.rest(0, 1, 1), 1);
        due("no third", x.rest(0, 1, 2), -2);
        x.lend(0, 1);
        due("ten for b are besides what is lent", x.rests(0, 1), 2);
    }

    private static void fallsEarns() {
        promise = "27 falls, 28 earns";
        WristGoal x = of("man a 50 50 0;man b 0 9 0;law habit 50-row*9+(row=0)*0;pay 4 50;bet 6 3;");
        due("50, 41 (broken), 50, 41", x.falls(0, 4), 2);
        due("0 days", x.falls(0, 0), 0);
        due("99 days", x.falls(0, 99), 49);
        due("100 days", x.falls(0, 100), -1);
        due("no such", x.falls(2, 1), -1);
        due("pence", x.earns(0, 4, 0), 8);
        due("pots", x.earns(0, 7, 1), 12);
        due("b's pots", x.earns(1, 7, 1), 0);
        due("0 days", x.earns(0, 0, 1), 0);
        due("60 days", x.earns(0, 60, 0), 120);
        due("61 days", x.earns(0, 61, 0), -1);
        due("what 2", x.earns(0, 1, 2), -1);
        due("no such", x.earns(-1, 1, 0), -1);
        x.go(4);
        due("from now on alone", x.earns(0, 2, 0), 4);
    }

    private static void falseOnes() {
        promise = "29 falseOnes";
        WristGoal x = of("man a 1 1 1;man b 1 1 1;deed d 2 8 1;deed e 9 3 1;deed f 5 0 1;"
            + "plan a d 3;plan a e 2;plan b f 9;");
        due("18 of 30: above", x.falseOnes(0, 0), 3);
        due("below", x.falseOnes(0, 1), 5);
        due("none counted", x.falseOnes(1, 0), 0);
        due("none counted", x.falseOnes(1, 1), 1);
        x.plan(0, 0, 0);
        due("0 of 6", x.falseOnes(0, 0), 0);
        due("0 of 6", x.falseOnes(0, 1), 1);
        due("what 2", x.falseOnes(0, 2), -1);
        due("no such", x.falseOnes(2, 0), -1);
        due("all", of("man a 1 1 1;deed d 0 8 1;plan a d 3;").falseOnes(0, 0), 1);
    }

    private static void habit() {
        promise = "30 habit";
        WristGoal x = of("man a 20 20 0;man b 22 20 2;man c 50 10 0;");
        due("it is", x.habit(0), 0);
        due("1 more each 7 days", x.habit(1), 14);
        due("not by then", x.habit(2), -2);
        due("no such", x.habit(3), -1);
        due("99 are enough", of("man a 99 0 0;law habit base+1;").habit(0), 99);
        due("98", of("man a 98 0 0;law habit base+1;").habit(0), 98);
        x = of("man a 99 0 0;law habit (day>98)*99;");
        due("100 are too many", x.habit(0), -2);
    }

    private static void breaks() {
        promise = "31 breaks";
        WristGoal x = of("man a 50 40 10;man b 50 60 10;");
        due("the push of today", x.breaks(0, 1), 10);
        due("a row that comes later", x.breaks(0, 8), 10);
        x.go(3);
        due("a row of 3", x.breaks(1, 2), 1);
        x.wear(0, false);
        due("put off already", x.breaks(0, 5), 0);
        due("0 days", x.breaks(0, 0), -1);
        due("61 days", x.breaks(0, 61), -1);
        due("60 days", x.breaks(1, 60) > 60, true);
        due("no such", x.breaks(2, 1), -1);
        due("0 at least", of("man a 50 40 10;law habit (row=0)*99;").breaks(0, 2), 0);
    }

    private static void notes() {
        promise = "32 note, 33 out, 34 known, 35 fits";
        WristGoal x = of("man a 0 10 0;man b 0 10 0;deed d 0 5 0;deed e 0 1 0;plan a d 2;");
        due("first", x.note(2, 0, 40, true), 0);
        due("20 and 10 each time", x.fits(0, 0), 1023 & ~3);
        due("fewer", x.note(3, 0, 90, false), 1);
        due("30 and 15 each time below 90", x.fits(0, 0), 4 + 8);
        due("of another deed, with the plan", x.fits(0, 1), 1023);
        due("of another person", x.fits(1, 0), 1023);
        due("strike", x.out(0), 2);
        due("struck", x.fits(0, 0), 15);
        due("strike the strike", x.out(2), 3);
        due("no more", x.fits(0, 0), 12);
        due("by 3", x.known(3), true);
        due("struck by these", x.fits(0, 0), 15);
        due("by how many", x.count(12), 3);
        due("b's", x.note(1, 1, 11, true), 4);
        due("not known", x.fits(1, 0), 1023);
        due("by all", x.known(-1), true);
        due("by how many", x.count(12), 5);
        due("known", x.fits(1, 0), 1022);
        due("of a, none", x.fits(0, 0), 0);
        due("5 of 5", x.known(5), true);
        due("6 of 5", x.known(6), false);
        due("-2", x.known(-2), false);
        due("5 still", x.count(12), 5);
        x.plan(0, 0, 9);
        x.wear(0, false);
        x.go(3);
        x.known(2);
        due("from the text on", x.fits(0, 0), 12);
        noteEdges(x);
    }

    private static void noteEdges(WristGoal x) {
        due("0 days", x.note(0, 0, 1, true), -1);
        due("41 days", x.note(41, 0, 1, true), -1);
        due("-1 steps", x.note(1, 0, -1, true), -1);
        due("100000 steps", x.note(1, 0, 100000, true), -1);
        due("no such person", x.note(1, 2, 1, true), -1);
        due("no such note", x.out(5), -1);
        due("no such note", x.out(-1), -1);
        due("edges", x.note(40, 1, 99999, false), 5);
        due("edges", x.note(40, 1, 0, true), 6);
        for (int k = 7; k < 24; k++) {
            due("one more", x.out(k - 1), k);
        }
        due("24 there are", x.note(1, 0, 1, true), -1);
        due("24 there are", x.out(0), -1);
        due("24", x.count(11), 24);
        due("fits: no such deed", x.fits(0, 2), -1);
        due("fits: no such person", x.fits(2, 0), -1);
        x.known(-1);
        due("17 strikes in a row strike note 6", x.fits(1, 0), 1022);
        WristGoal y = of("man a 0 10 0;deed d 0 5 0;rain 50;");
        y.note(1, 0, 10, true);
        due("wet as it goes", y.fits(0, 0), 1022);
    }

    private static void chance() {
        promise = "36 chance";
        WristGoal x = of("man a 50 50 0;rain 50;");
        int many = 0;
        long number = 77;
        for (int k = 0; k < 10; k++) {
            int row = 0;
            for (int d = 0; d < 3; d++) {
                number = (number * 1103515245L + 12345L) & 0x7fffffffL;
                row = number / 65536 % 100 < 50 ? 0 : row + 1;
            }
            many += row >= 1 ? 1 : 0;
        }
        due("3 days", x.chance(77, 3, 0, 1), many);
        due("some, not all", many > 0 && many < 10, true);
        due("a row of 4 in 3 days", x.chance(77, 3, 0, 4), 0);
        due("a row of 0", x.chance(2147483647, 60, 0, 0), 10);
        due("no day goes by", x.count(4), 0);
        due("seed -1", x.chance(-1, 3, 0, 1), -1);
        due("seed 0", x.chance(0, 1, 0, 0), 10);
        due("0 days", x.chance(1, 0, 0, 1), -1);
        due("61 days", x.chance(1, 61, 0, 1), -1);
        due("row 100", x.chance(1, 1, 0, 100), -1);
        due("row -1", x.chance(1, 1, 0, -1), -1);
        due("no such person", x.chance(1, 1, 1, 1), -1);
        x = of("man a 50 50 0;");
        x.go(5);
        due("with the row of now", x.chance(1, 3, 0, 8), 10);
        due("not 9", x.chance(1, 3, 0, 9), 0);
    }

    private static void tried() {
        promise = "37 tried";
        WristGoal x = of("man a 50 40 30;man b 60 20 0;deed d 7 1 1;plan b d 1;rain 50;");
        x.wear(0, false);
        due("as it is: 20 and 17", x.tried(0, 0, 1), 37);
        due("no rain", x.tried(1, 0, 1), 67);
        due("without a", x.tried(2, 0, 1), 17);
        due("without b", x.tried(2, 1, 1), 20);
        due("all with the band", x.tried(3, 0, 1), 67);
        due("no deeds", x.tried(4, 0, 1), 30);
        due("nobody pushes", x.tried(5, 0, 1), 37);
        x.wear(0, true);
        due("a pushes", x.tried(0, 0, 1), 67);
        due("nobody pushes", x.tried(5, 0, 1), 37);
        due("0 days", x.tried(0, 0, 0), 0);
        due("60 days", x.tried(5, 0, 60), 37 * 60);
        due("61 days", x.tried(0, 0, 61), -1);
        due("what 6", x.tried(6, 0, 1), -1);
        due("what -1", x.tried(-1, 0, 1), -1);
        due("i 1", x.tried(0, 1, 1), -1);
        due("i 2 of 2", x.tried(2, 2, 1), -1);
        x = of("man a 0 90 0;man b 50 1 0;law push 99-behind;law fair 90;");
        due("behind a", x.tried(0, 0, 1), 91);
        due("behind nobody", x.tried(2, 0, 1), 50);
        x = of("man a 0 90 0;man b 50 1 0;law push 99-behind;law fair 90;bet 1 14;");
        x.go(1);
        due("a's sum counts no more", x.tried(2, 0, 1), 50);
    }

    private static void undo() {
        promise = "38 undo";
        WristGoal x = of("man a 50 40 30;deed d 1 1 1;plan a d 3;");
        x.wear(0, false);
        x.goal(0, 9);
        x.plan(0, 0, 5);
        x.lend(0, 7);
        x.lend(0, 8);
        due("five", x.count(13), 5);
        x.wear(0, false);
        x.lend(0, 0);
        due("what failed isn't undone", x.count(13), 5);
        x.go(0);
        due("no day went by", x.undo(), 4);
        due("lent", x.has(0, 1), 7);
        due("undo", x.undo(), 3);
        due("lent", x.has(0, 1), 0);
        due("undo", x.undo(), 2);
        due("times", x.times(0, 0), 3);
        due("undo", x.undo(), 1);
        due("goal", manOf(x, 0, 0), 50);
        due("undo", x.undo(), 0);
        due("band", x.has(0, 0), 1);
        due("none", x.undo(), -1);
        for (int k = 1; k <= 25; k++) {
            x.goal(0, k);
        }
        due("20 at most", x.count(13), 20);
        for (int k = 19; k >= 0; k--) {
            due("undo", x.undo(), k);
        }
        due("five were too many", manOf(x, 0, 0), 5);
        due("none", x.undo(), -1);
        x.goal(0, 77);
        x.go(1);
        due("a day went by", x.undo(), -1);
        due("it stays", manOf(x, 0, 0), 77);
    }

    private static void image() {
        promise = "39 keep, 40 back";
        WristGoal x = of("man a 50 50 30;man b 9 9 9;deed d 1 1 1;plan a d 3;rain 50;seed 9;bet 5 2;pay 1 1;");
        due("none", x.back(), -1);
        x.go(3);
        x.lend(0, 7);
        due("keep", x.keep(), 3);
        due("undo stays", x.count(13), 1);
        int[] before = all(x, 2);
        x.go(5);
        int[] behind = all(x, 2);
        x.goal(0, 1);
        x.wear(1, false);
        x.plan(1, 0, 4);
        x.note(1, 0, 1, true);
        x.known(0);
        due("back", x.back(), 3);
        due("nothing to undo", x.undo(), -1);
        due("notes stay", x.count(11), 1);
        due("known stays", x.count(12), 0);
        for (int k = 0; k < before.length; k++) {
            due("as it was " + k, all(x, 2)[k], before[k]);
        }
        x.go(5);
        for (int k = 0; k < behind.length; k++) {
            due("the same days again " + k, all(x, 2)[k], behind[k]);
        }
        due("back again", x.back(), 3);
        x.go(1);
        due("another in its place", x.keep(), 4);
        x.go(9);
        due("back to it", x.back(), 4);
    }

    private static int[] all(WristGoal x, int men) {
        int[] all = new int[40];
        int at = 0;
        for (int man = 0; man < men; man++) {
            for (int what = 0; what < 8; what++) {
                all[at++] = x.man(man, what);
            }
            for (int what = 0; what < 4; what++) {
                all[at++] = x.has(man, what);
            }
            all[at++] = x.times(man, 0);
        }
        for (int what = 0; what <= 10; what++) {
            all[at++] = x.count(what);
        }
        return all;
    }

    private static void count() {
        promise = "41 count";
        WristGoal x = of("man a 50 50 0;man b 30 30 0;man c 0 10 0;deed d 1 1 1;deed e 2 3 1;plan a d 3;"
            + "bet 5 2;pay 2 30;law fair 1+2;seed 3;");
        x.go(3);
        x.wear(0, false);
        x.wear(1, false);
        x.go(1);
        x.lend(0, 5);
        x.note(1, 0, 1, true);
        x.out(0);
        int[] due = {3, 2, 1, 3, 4, 0, 4 * (53 + 30 + 10) - 1 + 1, 3 * (53 + 30) + 40, 12, 10, 2, 2, 2, 1};
        for (int what = 0; what < due.length; what++) {
            due("count(" + what + ")", x.count(what), due[what]);
        }
        due("what 14", x.count(14), -1);
        due("what -1", x.count(-1), -1);
        due("what far", x.count(Integer.MIN_VALUE), -1);
    }
}

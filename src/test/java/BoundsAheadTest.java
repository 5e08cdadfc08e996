/** Boundary cases of what is asked of days ahead (==== 3): promises 16 to 31, 36 and 37. */
public final class BoundsAheadTest {
    public static void main(String[] args) {
        Bounds.run(BoundsAheadTest.class);
    }

    private static void due(String what, long got, long want) {
        Bounds.due(what, got, want);
    }

    private static WristGoal of(String text) {
        return Bounds.of(text);
    }

    private static void ofPeople(Bounds.Each call) {
        Bounds.refusedOutside("man", 0, 1, -1, call);
    }

    /** Steps of 50 by a push of 1 for seven days, then base grows by sevens; 4 more are truly walked. */
    private static WristGoal pusher() {
        return of("man a 50 48 1;deed d 5 1 1;plan a d 1;");
    }

    @Says(promise = 16, value = "==== 3. AHEAD for n DAYS: STEPS of a PERSON in sum, what is WALKED truly, ROW and "
        + "BASE then.")
    static void aheadInSum() {
        WristGoal x = pusher();
        int[] one = {50, 54, 1, 48};
        int[] seven = {350, 7 * 54, 7, 49};
        for (int what = 0; what < 4; what++) {
            due("one day, what " + what, x.ahead(0, 1, what), one[what]);
            due("seven days, what " + what, x.ahead(0, 7, what), seven[what]);
        }
        x.go(7);
        due("from now on alone: steps", x.ahead(0, 1, 0), 50);
        due("from now on alone: walked", x.ahead(0, 1, 1), 54);
        due("the row of now goes on", x.ahead(0, 1, 2), 8);
        due("base", x.ahead(0, 7, 3), 50);
        x.lend(0, 9);
        due("lent today alone", x.ahead(0, 2, 0), 59 + 50);
        x.wear(0, false);
        due("without the band", x.ahead(0, 1, 0), 9);
        due("walked without", x.ahead(0, 1, 1), 54);
        due("the row breaks", x.ahead(0, 1, 2), 0);
        due("and base is less", x.ahead(0, 1, 3), 48);
    }

    @Says(promise = 16, value = "AHEAD (n 0 .. 60), what 0 STEPS, 1 WALKED, 2 ROW, 3 BASE.")
    static void aheadFrom0To60() {
        WristGoal x = pusher();
        x.go(3);
        int[] none = {0, 0, 3, 48};
        for (int what = 0; what < 4; what++) {
            due("0 days, what " + what, x.ahead(0, 0, what), none[what]);
        }
        x = pusher();
        due("60 days: steps", x.ahead(0, 60, 0), 7 * (50 + 50 + 51 + 52 + 53 + 54 + 55 + 56) + 4 * 57);
        due("60 days: walked", x.ahead(0, 60, 1), 7 * (54 + 54 + 55 + 56 + 57 + 58 + 59 + 60) + 4 * 61);
        due("60 days: row", x.ahead(0, 60, 2), 60);
        due("60 days: base", x.ahead(0, 60, 3), 56);
        Bounds.leavesAll("60 days", y -> y.ahead(1, 60, 3));
    }

    @Says(promise = 16, value = "NONE: no such ones.")
    static void aheadRefused() {
        ofPeople((x, i) -> x.ahead(i, 1, 0));
        Bounds.refusedOutside("n", 0, 60, -1, (x, n) -> x.ahead(0, n, 2));
        Bounds.refusedOutside("what", 0, 3, -1, (x, what) -> x.ahead(0, 1, what));
        Bounds.refused("what of 0 days", -1, x -> x.ahead(0, 0, 4));
    }

    @Says(promise = 17, value = "REACHES: in how many DAYS, n at most, a PERSON REACHES GOAL first (1: today).")
    static void reachesFirst() {
        WristGoal x = of("man a 3 0 0;law habit base+1;");
        due("today isn't it: base 0, 1, 2, 3", x.reaches(0, 9), 4);
        x.go(2);
        due("two days on", x.reaches(0, 9), 2);
        x.go(1);
        due("today", x.reaches(0, 9), 1);
        x.go(4);
        x.goal(0, 9);
        due("a row of now isn't yet today's", x.reaches(0, 9), 3);
        x.lend(0, 2);
        due("by lent ones today", x.reaches(0, 9), 1);
        due("a goal of 0", of("man a 0 0 0;").reaches(0, 1), 1);
        due("by a push", of("man a 9 0 9;").reaches(0, 1), 1);
    }

    @Says(promise = 17, value = "REACHES (n 1 .. 99);")
    static void reachesIn1To99() {
        WristGoal x = of("man a 98 0 0;law habit base+1;");
        due("99 of 99", x.reaches(0, 99), 99);
        due("1 of 1", of("man a 98 98 0;").reaches(0, 1), 1);
        Bounds.leavesAll("99 days", y -> y.reaches(1, 99));
    }

    @Says(promise = 17, value = "-2: not by then;")
    static void reachesNotByThen() {
        WristGoal x = of("man a 98 0 0;law habit base+1;");
        due("99 of 98", x.reaches(0, 98), -2);
        due("1 of 1", x.reaches(0, 1), -2);
        x.goal(0, 99);
        due("100 of 99", x.reaches(0, 99), -2);
        x = of("man a 50 40 0;");
        x.lend(0, 9);
        due("1 lacks", x.reaches(0, 99), -2);
    }

    @Says(promise = 17, value = "NONE: no such ones.")
    static void reachesRefused() {
        ofPeople((x, i) -> x.reaches(i, 1));
        Bounds.refusedOutside("n", 1, 99, -1, (x, n) -> x.reaches(0, n));
    }

    @Says(promise = 18, value = "LONGEST ROW in n DAYS (that of now counted on).")
    static void longestCountsOn() {
        WristGoal x = of("man a 50 50 0;law habit 50;");
        x.go(5);
        due("counted on", x.longest(0, 4), 9);
        x.goal(0, 51);
        due("that of now", x.longest(0, 4), 5);
        x = of("man a 10 10 0;law habit 10-(row=3);");
        due("3, broken, 3, broken", x.longest(0, 20), 3);
        x.go(4);
        due("a new one of 3", x.longest(0, 3), 3);
        due("of 2", x.longest(0, 2), 2);
    }

    @Says(promise = 18, value = "LONGEST ROW (n 0 .. 99);")
    static void longestIn0To99() {
        WristGoal x = of("man a 9 9 0;man b 9 8 0;");
        due("0 days", x.longest(0, 0), 0);
        due("99 days", x.longest(0, 99), 99);
        due("never", x.longest(1, 99), 0);
        x.go(2);
        due("0 days", x.longest(0, 0), 2);
        due("1 day", x.longest(0, 1), 3);
        due("99 days", x.longest(0, 99), 101);
        Bounds.leavesAll("99 days", y -> y.longest(1, 99));
    }

    @Says(promise = 18, value = "NONE: no such ones.")
    static void longestRefused() {
        ofPeople((x, i) -> x.longest(i, 1));
        Bounds.refusedOutside("n", 0, 99, -1, (x, n) -> x.longest(0, n));
    }

    @Says(promise = 19, value = "MOVES for n DAYS: the GOAL 0 .. 99 in place of the one there is by which a PERSON "
        + "WALKS most in these DAYS as it goes, the first of several, and how much.")
    static void theGoalThatMovesMost() {
        WristGoal x = of("man a 10 30 69;man b 10 30 68;man c 99 30 0;man d 0 0 99;");
        due("99", x.moves(0, 1, 0), 99);
        due("99 walked", x.moves(0, 1, 1), 99);
        due("98", x.moves(1, 1, 0), 98);
        due("98 walked", x.moves(1, 1, 1), 98);
        due("the first of all", x.moves(2, 1, 0), 0);
        due("30 walked", x.moves(2, 1, 1), 30);
        due("0 and 99", x.moves(3, 1, 0), 99);
        x.wear(0, false);
        due("without the band the first of all", x.moves(0, 5, 0), 0);
        due("150 walked", x.moves(0, 5, 1), 150);
        x = of("man a 50 30 0;law push (goal=40 or goal=41)*(50-goal);law habit 30;");
        due("41 rather than 40", x.moves(0, 2, 0), 40);
        due("by 10", x.moves(0, 2, 1), 80);
        due("wet", of("man a 50 40 10;rain 50;").moves(0, 1, 0), 30);
    }

    @Says(promise = 19, value = "MOVES (n 1 .. 60), what 0: the GOAL, 1: how much.")
    static void movesIn1To60() {
        WristGoal x = of("man a 10 99 0;man b 9 50 2;law habit base;");
        due("60 days", x.moves(0, 60, 1), 5940);
        due("the first goal", x.moves(0, 60, 0), 0);
        due("60 days", x.moves(1, 60, 1), 52 * 60);
        due("its goal", x.moves(1, 60, 0), 52);
        due("1 day", x.moves(1, 1, 1), 52);
        x.go(3);
        due("from now on alone", x.moves(1, 1, 1), 52);
        Bounds.leavesAll("60 days", y -> y.moves(1, 60, 0));
    }

    @Says(promise = 19, value = "NONE: no such ones.")
    static void movesRefused() {
        ofPeople((x, i) -> x.moves(i, 1, 0));
        Bounds.refusedOutside("n", 1, 60, -1, (x, n) -> x.moves(0, n, 0));
        Bounds.refusedOutside("what", 0, 1, -1, (x, what) -> x.moves(0, 1, what));
    }

    @Says(promise = 20, value = "DEEDS for a PERSON today: of the first four DEEDS 0 .. 4 times each more than "
        + "planned:")
    static void fourDeedsFourTimes() {
        String deeds = "deed a 0 1 1;deed b 0 2 1;deed c 0 3 1;deed d 0 4 1;deed e 0 20 0;deed f 0 20 0;";
        WristGoal x = of("man a 40 0 0;" + deeds);
        due("16 minutes", x.deeds(0, 4), 16);
        for (int what = 0; what < 4; what++) {
            due("four times " + what, x.deeds(0, what), 4);
        }
        x.goal(0, 41);
        due("41 by none, the fifth isn't asked", x.deeds(0, 4), -3);
        x.plan(0, 4, 1);
        due("the fifth as planned", x.deeds(0, 4), 6);
        x.plan(0, 4, 0);
        x.plan(0, 0, 9);
        due("32 lack behind nine: 16, 12 and 4", x.deeds(0, 4), 10);
        x.goal(0, 49);
        due("four times each besides nine", x.deeds(0, 4), 16);
        due("more than planned", x.deeds(0, 0), 4);
        x.goal(0, 50);
        due("by none", x.deeds(0, 0), -3);
    }

    @Says(promise = 20, value = "the fewest MINUTES in sum by which STEPS of today, without rain, PUSH and what is "
        + "LENT, are GOAL at least with the BAND, the first by DEEDS of several.")
    static void fewestMinutes() {
        WristGoal x = of("man a 50 40 99;deed a 0 5 2;deed b 0 10 4;deed c 0 3 1;deed d 0 0 0;rain 100;law push 99;");
        x.lend(0, 99);
        x.wear(0, false);
        int[] due = {0, 0, 4, 0, 4};
        for (int what = 0; what < 5; what++) {
            due("what " + what, x.deeds(0, what), due[what]);
        }
        x.goal(0, 40);
        due("as many: none more", x.deeds(0, 4), 0);
        x.goal(0, 41);
        due("1 lacks", x.deeds(0, 4), 1);
        due("by the third", x.deeds(0, 2), 1);
        x = of("man a 10 0 0;deed a 0 5 1;deed b 0 5 1;deed c 0 5 1;");
        int[] first = {0, 0, 2};
        for (int what = 0; what < 3; what++) {
            due("the first by deeds " + what, x.deeds(0, what), first[what]);
        }
        x = of("man a 1 0 0;deed a 0 1 0;deed b 0 1 0;");
        due("no minutes", x.deeds(0, 4), 0);
        due("not the first", x.deeds(0, 0), 0);
        due("the second once", x.deeds(0, 1), 1);
        x = of("man a 10 0 0;deed a 0 9 1;deed b 0 3 1;deed c 0 1 9;");
        due("fewest minutes ahead of fewest steps", x.deeds(0, 0), 1);
        due("9 and 3", x.deeds(0, 1), 1);
    }

    @Says(promise = 20, value = "DEEDS, what 0 .. 3: how many times the first DEED, and so on, more (-2: not so "
        + "many DEEDS), 4: MINUTES more.")
    static void notSoManyDeeds() {
        String deeds = "";
        for (int many = 0; many <= 6; many++) {
            WristGoal x = of("man a 0 0 0;" + deeds);
            for (int what = 0; what < 4; what++) {
                due(many + " deeds, what " + what, x.deeds(0, what), what < many ? 0 : -2);
            }
            due(many + " deeds: minutes", x.deeds(0, 4), 0);
            deeds += "deed " + (char) ('a' + many) + " 1 1 1;";
        }
        Bounds.leavesAll("minutes", x -> x.deeds(0, 4));
    }

    @Says(promise = 20, value = "-3: by none (of DEEDS there are);")
    static void byNone() {
        WristGoal x = of("man a 5 0 0;deed a 0 1 1;");
        due("minutes", x.deeds(0, 4), -3);
        due("the first", x.deeds(0, 0), -3);
        due("there is no second", x.deeds(0, 1), -2);
        due("there is no fourth", x.deeds(0, 3), -2);
        x.goal(0, 4);
        due("4 are enough", x.deeds(0, 0), 4);
        x = of("man a 1 0 0;");
        due("without deeds", x.deeds(0, 4), -3);
        due("there is no first", x.deeds(0, 0), -2);
    }

    @Says(promise = 20, value = "NONE: no such ones.")
    static void deedsRefused() {
        ofPeople((x, i) -> x.deeds(i, 4));
        Bounds.refusedOutside("what", 0, 4, -1, (x, what) -> x.deeds(0, what));
        due("neither person nor deed", new WristGoal().deeds(0, 0), -1);
    }

    @Says(promise = 21, value = "LEADS;")
    static void leadsIsAsked() {
        Bounds.leavesAll("leads", x -> x.leads());
        WristGoal x = of("man a 0 1 0;man b 0 2 0;man c 0 3 0;man d 0 4 0;man e 0 5 0;");
        x.go(1);
        due("the last", x.leads(), 4);
        x.go(6);
        due("sums are 0 again", x.leads(), 0);
    }

    @Says(promise = 21, value = "LEADS: the greatest SUM now, the first of several.")
    static void theGreatestSum() {
        WristGoal x = of("man a 0 4 0;man b 0 9 0;man c 0 9 0;man d 0 8 0;");
        due("the first of all 0", x.leads(), 0);
        x.go(1);
        due("the first of two", x.leads(), 1);
        x.lend(2, 1);
        due("not ahead of the day", x.leads(), 1);
        x.go(1);
        due("by 1", x.leads(), 2);
    }

    @Says(promise = 21, value = "NONE: nobody is there.")
    static void nobodyLeads() {
        due("a new object", new WristGoal().leads(), -1);
        due("a bet alone", of("bet 5 5;deed d 1 1 1;").leads(), -1);
        due("one", of("man a 0 0 0;").leads(), 0);
        WristGoal x = of("man a 0 0 0;");
        Bounds.tell(x, "");
        due("nobody any more", x.leads(), -1);
    }

    @Says(promise = 22, value = "WINNER: who WINS the POT next as it goes.")
    static void winsNext() {
        WristGoal x = of("man a 0 4 0;man b 0 9 0;man c 0 9 0;bet 5 3;");
        due("the first of two", x.winner(0), 1);
        x.lend(2, 1);
        due("by 1", x.winner(0), 2);
        x.wear(1, false);
        x.wear(2, false);
        due("by 12 to 0 and 1", x.winner(0), 0);
        x.undo();
        x.undo();
        x.undo();
        x.go(2);
        x.wear(1, false);
        due("the sums of now count", x.winner(0), 2);
        due("wet", of("man a 0 40 0;man b 21 0 21;rain 50;").winner(0), 1);
        due("dry", of("man a 0 40 0;man b 21 0 21;rain 49;").winner(0), 0);
        due("without a bet", of("man a 0 4 0;man b 0 9 0;").winner(0), 1);
        due("though the pot is 0", of("man a 0 4 0;man b 0 9 0;bet 0 1;").winner(0), 1);
    }

    @Says(promise = 22, value = "WINNER, what 0: who, 1: in how many DAYS.")
    static void winnerInHowManyDays() {
        for (int days : new int[] {1, 2, 14}) {
            WristGoal x = of("man a 0 4 0;bet 5 " + days + ";");
            for (int day = 0; day < 30; day++) {
                due("day " + day, x.winner(1), days - day % days);
                x.go(1);
            }
            due("who", x.winner(0), 0);
        }
        Bounds.leavesAll("who", x -> x.winner(0));
        Bounds.leavesAll("when", x -> x.winner(1));
    }

    @Says(promise = 22, value = "NONE for another what, nobody is there.")
    static void winnerRefused() {
        Bounds.refusedOutside("what", 0, 1, -1, (x, what) -> x.winner(what));
        due("who of nobody", new WristGoal().winner(0), -1);
        due("when of nobody", of("bet 5 5;").winner(1), -1);
    }

    @Says(promise = 23, value = "NEEDS of a PERSON: the fewest SUM 0 .. 999 more now by which that PERSON WINS it "
        + "as it goes.")
    static void theFewestMore() {
        WristGoal x = of("man a 0 20 0;man b 0 30 0;man c 0 20 0;bet 10 4;");
        due("as much is enough ahead of b", x.needs(0), 40);
        due("b wins by 0", x.needs(1), 0);
        due("1 more behind b", x.needs(2), 41);
        x.go(3);
        due("on the last day", x.needs(0), 40);
        due("b", x.needs(1), 0);
        x.go(1);
        due("of the next pot", x.needs(0), 40);
        for (String more : new String[] {"", "+behind*0"}) {
            due("999", of("man a 0 0 0;man b 1 1 0;bet 1 1;law fair 999*goal" + more + ";").needs(0), 999);
            due("998 and 1", of("man a 1 1 0;man b 0 0 0;bet 1 1;law fair 998*goal" + more + ";").needs(1), 999);
            due("0 of 0", of("man a 0 0 0;man b 0 0 0;bet 1 1;law fair 0" + more + ";").needs(0), 0);
            due("1 of 0", of("man a 0 0 0;man b 0 0 0;bet 1 1;law fair 0" + more + ";").needs(1), 1);
        }
        due("20 do, 31 don't", of("man a 50 10 0;man b 50 30 0;law push 99*(behind>30);bet 1 1;").needs(0), 20);
        due("alone", of("man a 0 0 0;").needs(0), 0);
    }

    @Says(promise = 23, value = "NEEDS;")
    static void needsIsAsked() {
        Bounds.leavesAll("of al", x -> x.needs(0));
        Bounds.leavesAll("of bo", x -> x.needs(1));
        due("the fifth", of("man a 0 1 0;man b 0 2 0;man c 0 3 0;man d 0 4 0;man e 0 4 0;bet 1 1;").needs(4), 1);
    }

    @Says(promise = 23, value = "-2: by none of these;")
    static void neededByNone() {
        for (String more : new String[] {"", "+behind*0"}) {
            due("1000", of("man a 1 1 0;man b 0 0 0;bet 1 1;law fair 999*goal" + more + ";").needs(1), -2);
            due("1998", of("man a 0 0 0;man b 1 1 0;bet 1 2;law fair 999*goal" + more + ";").needs(0), -2);
        }
    }

    @Says(promise = 23, value = "NONE: no such PERSON.")
    static void needsRefused() {
        ofPeople((x, i) -> x.needs(i));
        due("nobody is there", new WristGoal().needs(0), -1);
    }

    @Says(promise = 24, value = "FURTHER of two PEOPLE: each chooses 0 .. 4 times 10 steps LENT to itself today: if "
        + "it WINS the POT next as it goes, POT, less 3 for each ten.")
    static void potLess3ForEachTen() {
        String two = "man a 0 20 0;man b 0 5 0;";
        due("four tens are as many as c's", of(two + "man c 0 60 0;bet 13 1;").rest(0, 1, 0), 40);
        due("that alone", of(two + "man c 0 60 0;bet 13 1;").rests(0, 1), 1);
        due("12 for 12: as well off", of(two + "man c 0 60 0;bet 12 1;").rests(0, 1), 2);
        due("11 for 12", of(two + "man c 0 60 0;bet 11 1;").rests(0, 1), 1);
        due("11 for 12: none", of(two + "man c 0 60 0;bet 11 1;").rest(0, 1, 0), 0);
        due("41 lack", of(two + "man c 0 61 0;bet 999 1;").rests(0, 1), 1);
        due("41 lack: none", of(two + "man c 0 61 0;bet 999 1;").rest(0, 1, 0), 0);
        due("three tens rather than four", of(two + "man c 0 50 0;bet 13 1;").rest(0, 1, 0), 30);
        due("the other's three tens", of(two + "man c 0 50 0;bet 13 1;").rest(1, 0, 0), 3);
        due("today alone, of three days", of(two + "man c 0 33 0;bet 13 3;").rest(0, 1, 0), 40);
        due("40 lack in three days", of(two + "man c 0 34 0;bet 13 3;").rest(0, 1, 0), 0);
        WristGoal x = of(two + "man c 0 70 0;bet 13 1;");
        due("50 lack", x.rest(0, 1, 0), 0);
        x.lend(0, 10);
        due("besides those lent already", x.rest(0, 1, 0), 40);
        for (int steps = 40; steps <= 41; steps++) {
            x = of("man a 0 20 0;man b 0 " + steps + " 0;man c 0 0 0;bet 13 1;");
            x.wear(0, false);
            due("without the band, too: " + steps, x.rest(0, 2, 0), steps == 40 ? 40 : 0);
        }
        due("no pot, no tens", of(two + "bet 0 1;").rests(0, 1), 1);
    }

    @Says(promise = 24, value = "A REST: neither would have more otherwise.")
    static void neitherHasMoreOtherwise() {
        due("they overbid each other", of("man a 0 20 0;man b 0 30 0;bet 100 1;").rests(0, 1), 0);
        WristGoal x = of("man a 0 20 0;man b 0 20 0;bet 3 1;");
        due("as well off is a rest", x.rests(0, 1), 2);
        due("neither", x.rest(0, 1, 0), 0);
        due("b alone", x.rest(0, 1, 1), 1);
        due("a and b of a third one's pot", of("man a 0 9 0;man b 0 9 0;man c 0 99 0;bet 99 1;").rests(0, 1), 1);
        due("the third one's", of("man a 0 9 0;man b 0 9 0;man c 0 99 0;bet 99 1;").rests(2, 1), 1);
    }

    @Says(promise = 24, value = "How many RESTS FURTHER has;")
    static void howManyRests() {
        WristGoal x = of("man a 0 43 0;man b 0 35 0;man c 0 51 0;bet 6 1;");
        due("two", x.rests(0, 1), 2);
        due("the other way round", x.rests(1, 0), 2);
        Bounds.leavesAll("rests", y -> y.rests(0, 1));
        Bounds.leavesAll("rests", y -> y.rests(1, 0));
    }

    @Says(promise = 24, value = "NONE: no such PEOPLE, alike.")
    static void restsRefused() {
        ofPeople((x, i) -> x.rests(i, 0));
        ofPeople((x, i) -> x.rests(i, 1));
        ofPeople((x, i) -> x.rests(0, i));
        ofPeople((x, i) -> x.rests(1, i));
        ofPeople((x, i) -> x.rests(i, i));
        Bounds.refused("alike", -1, x -> x.rests(0, 0));
        Bounds.refused("alike", -1, x -> x.rests(1, 1));
    }

    @Says(promise = 25, value = "RESTS: by the first one's, then the second one's.")
    static void restsInOrder() {
        WristGoal x = of("man a 0 43 0;man b 0 35 0;man c 0 51 0;bet 6 1;");
        due("a none, b two", x.rest(0, 1, 0), 2);
        due("a one, b none", x.rest(0, 1, 1), 10);
        due("b none, a one", x.rest(1, 0, 0), 1);
        due("b two, a none", x.rest(1, 0, 1), 20);
        x = of("man a 0 20 0;man b 0 5 0;man c 0 60 0;bet 12 1;");
        due("none", x.rest(0, 1, 0), 0);
        due("four tens", x.rest(0, 1, 1), 40);
        due("the second one's four", x.rest(1, 0, 1), 4);
    }

    @Says(promise = 25, value = "The k-th: ten times the first one's choice and the second one's;")
    static void theKthRest() {
        WristGoal x = of("man a 0 20 0;man b 0 5 0;man c 0 60 0;bet 13 1;");
        due("40", x.rest(0, 1, 0), 40);
        due("4", x.rest(1, 0, 0), 4);
        Bounds.leavesAll("rest", y -> y.rest(0, 1, 0));
    }

    @Says(promise = 25, value = "-2: there are no so many;")
    static void noSoManyRests() {
        WristGoal x = of("man a 0 43 0;man b 0 35 0;man c 0 51 0;bet 6 1;");
        due("the second", x.rest(0, 1, 1), 10);
        due("the third", x.rest(0, 1, 2), -2);
        due("far", x.rest(0, 1, Bounds.MAX), -2);
        due("none at all", of("man a 0 20 0;man b 0 30 0;bet 100 1;").rest(0, 1, 0), -2);
    }

    @Says(promise = 25, value = "NONE likewise, k is below 0.")
    static void restRefused() {
        for (int k : new int[] {0, 99}) {
            ofPeople((x, i) -> x.rest(i, 0, k));
            ofPeople((x, i) -> x.rest(i, 1, k));
            ofPeople((x, i) -> x.rest(0, i, k));
            ofPeople((x, i) -> x.rest(1, i, k));
            Bounds.refused("alike", -1, x -> x.rest(0, 0, k));
            Bounds.refused("alike", -1, x -> x.rest(1, 1, k));
        }
        Bounds.refused("k -1", -1, x -> x.rest(0, 1, -1));
        Bounds.refused("k far below", -1, x -> x.rest(0, 1, Bounds.MIN));
    }

    @Says(promise = 26, value = "How many have a greater SUM than a PERSON, or the same and a lesser number;")
    static void rankBySums() {
        WristGoal x = of("man a 0 4 0;man b 0 9 0;man c 0 9 0;man d 0 10 0;man e 0 8 0;");
        for (int i = 0; i < 5; i++) {
            due("all the same", x.rank(i), i);
        }
        x.go(1);
        int[] due = {4, 1, 2, 0, 3};
        for (int i = 0; i < 5; i++) {
            due("rank of " + i, x.rank(i), due[i]);
        }
        Bounds.leavesAll("rank", y -> y.rank(1));
    }

    @Says(promise = 26, value = "NONE: no such PERSON.")
    static void rankRefused() {
        ofPeople((x, i) -> x.rank(i));
        due("nobody is there", new WristGoal().rank(0), -1);
    }

    @Says(promise = 27, value = "How often a PERSON's ROW is BROKEN in n DAYS 0 .. 99 as it goes;")
    static void fallsIn0To99() {
        WristGoal x = of("man a 10 10 0;law habit 10-(row=1);");
        due("0 days", x.falls(0, 0), 0);
        due("1 day", x.falls(0, 1), 0);
        due("2 days", x.falls(0, 2), 1);
        due("98 days", x.falls(0, 98), 49);
        due("99 days", x.falls(0, 99), 49);
        x.go(1);
        due("today", x.falls(0, 1), 1);
        due("99 days", x.falls(0, 99), 50);
        x.go(1);
        due("those that are over don't count", x.falls(0, 1), 0);
        due("never reached", of("man a 10 9 0;").falls(0, 99), 0);
        due("wet", of("man a 10 10 0;rain 50;law habit 10+10*(row=0);").falls(0, 3), 1);
        Bounds.leavesAll("99 days", y -> y.falls(0, 99));
    }

    @Says(promise = 27, value = "NONE: no such ones.")
    static void fallsRefused() {
        ofPeople((x, i) -> x.falls(i, 1));
        Bounds.refusedOutside("n", 0, 99, -1, (x, n) -> x.falls(0, n));
    }

    @Says(promise = 28, value = "What a PERSON gets in n DAYS 0 .. 60 as it goes, what 0: PENCE, 1: of POTS.")
    static void earnsIn0To60() {
        WristGoal x = of("man a 0 50 0;man b 0 49 0;pay 4 50;bet 6 3;law habit base;");
        due("0 days: pence", x.earns(0, 0, 0), 0);
        due("0 days: pots", x.earns(0, 0, 1), 0);
        due("2 days: pots", x.earns(0, 2, 1), 0);
        due("3 days: pots", x.earns(0, 3, 1), 6);
        due("60 days: pence", x.earns(0, 60, 0), 240);
        due("60 days: pots", x.earns(0, 60, 1), 120);
        due("b's pence", x.earns(1, 60, 0), 0);
        due("b's pots", x.earns(1, 60, 1), 0);
        x.go(5);
        due("from now on alone", x.earns(0, 1, 0), 4);
        due("of pots", x.earns(0, 1, 1), 6);
        due("wet", of("man a 0 50 0;pay 4 26;rain 50;").earns(0, 9, 0), 0);
        Bounds.leavesAll("60 days", y -> y.earns(0, 60, 1));
    }

    @Says(promise = 28, value = "NONE: no such ones.")
    static void earnsRefused() {
        ofPeople((x, i) -> x.earns(i, 1, 0));
        Bounds.refusedOutside("n", 0, 60, -1, (x, n) -> x.earns(0, n, 0));
        Bounds.refusedOutside("what", 0, 1, -1, (x, what) -> x.earns(0, 1, what));
    }

    @Says(promise = 29, value = "FALSE: of COUNTED steps of a PERSON's PLANS the part by which they are more than "
        + "TRUE ones (of each DEED 0 at least), as a fraction.")
    static void falsePart() {
        WristGoal x = of("man a 1 99 1;deed d 2 8 1;deed e 9 3 1;deed f 5 5 1;plan a d 3;");
        due("18 of 24", x.falseOnes(0, 0), 3);
        due("18 of 24", x.falseOnes(0, 1), 4);
        x.plan(0, 1, 2);
        due("18 of 30, nothing less by e", x.falseOnes(0, 0), 3);
        due("18 of 30", x.falseOnes(0, 1), 5);
        x.plan(0, 2, 1);
        due("18 of 35", x.falseOnes(0, 0), 18);
        due("18 of 35", x.falseOnes(0, 1), 35);
        x.wear(0, false);
        due("without the band, too", x.falseOnes(0, 1), 35);
        due("as true", of("man a 1 1 1;deed d 8 8 1;plan a d 1;").falseOnes(0, 0), 0);
        due("1 more than true", of("man a 1 1 1;deed d 7 8 1;plan a d 1;").falseOnes(0, 0), 1);
        due("1 less than true", of("man a 1 1 1;deed d 9 8 1;plan a d 1;").falseOnes(0, 0), 0);
    }

    @Says(promise = 29, value = "FALSE in least terms, what 0: the number above, 1: the one below (0 by 1, if none "
        + "is COUNTED).")
    static void leastTerms() {
        WristGoal x = of("man a 1 1 1;man b 1 1 1;man c 1 1 1;man d 1 1 1;deed d 0 20 1;deed e 5 0 1;deed f 9 7 1;"
            + "plan a d 9;plan b e 9;plan c f 2;");
        int[] above = {1, 0, 0, 0};
        for (int i = 0; i < 4; i++) {
            due("above " + i, x.falseOnes(i, 0), above[i]);
            due("below " + i, x.falseOnes(i, 1), 1);
        }
        x = of("man a 1 1 1;deed d 1 2 1;deed e 0 20 1;deed f 20 19 1;plan a d 9;plan a e 9;plan a f 9;");
        due("189 of 369", x.falseOnes(0, 0), 21);
        due("189 of 369", x.falseOnes(0, 1), 41);
        x = of("man a 1 1 1;deed a 1 2 1;deed b 1 1 1;deed c 0 0 0;deed d 2 2 1;deed e 3 3 3;deed f 5 8 1;"
            + "plan a f 2;plan a a 1;");
        due("7 of 18, by the sixth deed, too", x.falseOnes(0, 0), 7);
        due("7 of 18", x.falseOnes(0, 1), 18);
        Bounds.leavesAll("false", y -> y.falseOnes(0, 1));
    }

    @Says(promise = 29, value = "NONE: no such ones.")
    static void falseOnesRefused() {
        ofPeople((x, i) -> x.falseOnes(i, 0));
        Bounds.refusedOutside("what", 0, 1, -1, (x, what) -> x.falseOnes(0, what));
    }

    @Says(promise = 30, value = "HABIT of a PERSON: in how many DAYS, 99 at most, BASE is GOAL at least as it goes "
        + "(0: it is).")
    static void habitIn0To99() {
        due("it is", of("man a 20 20 0;").habit(0), 0);
        due("it is more", of("man a 20 21 0;").habit(0), 0);
        due("1 lacks: 7 days", of("man a 20 19 1;").habit(0), 7);
        due("1", of("man a 1 0 0;law habit base+1;").habit(0), 1);
        due("98", of("man a 98 0 0;law habit base+1;").habit(0), 98);
        due("99", of("man a 99 0 0;law habit base+1;").habit(0), 99);
        due("not halved, if wet", of("man a 20 20 0;rain 50;").habit(0), 0);
        due("wet", of("man a 20 19 1;rain 50;").habit(0), -2);
        WristGoal x = of("man a 9 0 0;law habit base+1;");
        x.go(3);
        due("from now on", x.habit(0), 6);
    }

    @Says(promise = 30, value = "HABIT;")
    static void habitIsAsked() {
        Bounds.leavesAll("al", x -> x.habit(0));
        Bounds.leavesAll("bo", x -> x.habit(1));
        due("the fifth", of("man a 9 0 0;man b 9 0 0;man c 9 0 0;man d 9 0 0;man e 9 9 0;").habit(4), 0);
    }

    @Says(promise = 30, value = "-2: not by then;")
    static void habitNotByThen() {
        due("100 days", of("man a 99 0 0;law habit (day>98)*99;").habit(0), -2);
        due("99 days", of("man a 99 0 0;law habit (day>97)*99;").habit(0), 99);
        due("never", of("man a 99 98 0;").habit(0), -2);
    }

    @Says(promise = 30, value = "NONE: no such PERSON.")
    static void habitRefused() {
        ofPeople((x, i) -> x.habit(i));
    }

    @Says(promise = 31, value = "BREAK: what a PERSON WALKS less in n DAYS as it goes, if the BAND is put off today "
        + "alone (0 at least).")
    static void walksLessByABreak() {
        WristGoal x = of("man a 50 40 10;man b 50 60 10;man c 20 20 0;");
        due("the push of today", x.breaks(0, 1), 10);
        due("today alone", x.breaks(0, 5), 10);
        due("nothing less", x.breaks(1, 5), 0);
        due("base grows a day later", x.breaks(2, 8), 1);
        x.go(3);
        due("a row of 3: today the same", x.breaks(1, 1), 0);
        due("a row of 3: 1 less tomorrow", x.breaks(1, 2), 1);
        x.wear(0, false);
        due("put off already", x.breaks(0, 5), 0);
        due("0 at least", of("man a 50 40 10;law habit 40+(row=0)*59;").breaks(0, 2), 0);
        due("10 less, 9 more", of("man a 50 40 10;law habit 40+(row=0)*19;").breaks(0, 2), 1);
        due("10 less, 10 more", of("man a 50 40 10;law habit 40+(row=0)*20;").breaks(0, 2), 0);
        due("10 less, 11 more", of("man a 50 40 10;law habit 40+(row=0)*21;").breaks(0, 2), 0);
        x = of("man a 50 40 10;");
        x.lend(0, 10);
        due("no push today", x.breaks(0, 3), 0);
        due("wet", of("man a 50 80 10;rain 50;").breaks(0, 3), 10);
    }

    @Says(promise = 31, value = "BREAK (n 1 .. 60);")
    static void breaksIn1To60() {
        WristGoal x = of("man a 50 50 0;law habit 50-(row=0);law push 0;");
        due("1 day", x.breaks(0, 1), 0);
        due("60 days: 49 for 59 days", x.breaks(0, 60), 59);
        Bounds.leavesAll("60 days", y -> y.breaks(0, 60));
        Bounds.leavesAll("without the band", y -> y.breaks(1, 60));
    }

    @Says(promise = 31, value = "NONE: no such ones.")
    static void breaksRefused() {
        ofPeople((x, i) -> x.breaks(i, 1));
        Bounds.refusedOutside("n", 1, 60, -1, (x, n) -> x.breaks(0, n));
    }

    /** In how many of ten times one of base as goal, who never pushes, has such a row by the numbers of the document. */
    private static int drawn(long seed, int n, int rain, int row, int before) {
        long number = seed;
        int many = 0;
        for (int k = 0; k < 10; k++) {
            int now = before;
            for (int d = 0; d < n; d++) {
                number = (number * 1103515245L + 12345L) % 2147483648L;
                now = number / 65536 % 100 < rain ? 0 : now + 1;
            }
            many += now >= row ? 1 : 0;
        }
        return many;
    }

    @Says(promise = 36, value = "DAYS by chance with numbers.")
    static void daysByChance() {
        WristGoal x = of("man a 50 50 0;rain 30;law habit 50;");
        for (int seed = 0; seed < 60; seed++) {
            due("seed " + seed, x.chance(seed, 4, 0, 2), drawn(seed, 4, 30, 2, 0));
        }
        x.go(9);
        int row = Bounds.manOf(x, 0, 3);
        for (int seed = 0; seed < 30; seed++) {
            due("from now on", x.chance(seed, 3, 0, 4), drawn(seed, 3, 30, 4, row));
        }
        x = of("man a 50 50 0;rain 60;law habit 50;");
        int some = 0;
        for (int seed = 0; seed < 30; seed++) {
            some += x.chance(seed, 1, 0, 1);
        }
        Bounds.due("not wet, as it goes", some > 0, true);
    }

    @Says(promise = 36, value = "In how many of ten times drawn (numbers from a seed 0 .. 2147483647 on, one behind "
        + "another; n 1 .. 60 DAYS from now) a PERSON has a ROW of so many 0 .. 99 at least then;")
    static void chanceWithinBounds() {
        WristGoal x = of("man a 50 50 0;rain 30;law habit 50;");
        for (int seed : new int[] {0, 1, 65536, Bounds.MAX - 1, Bounds.MAX}) {
            for (int n : new int[] {1, 2, 60}) {
                for (int row : new int[] {0, 1, 2, 99}) {
                    int want = drawn(seed, n, 30, row, 0);
                    due("seed " + seed + ", n " + n + ", row " + row, x.chance(seed, n, 0, row), want);
                }
            }
        }
        x = of("man a 50 50 0;");
        x.go(39);
        due("a row of 99 in 60 days", x.chance(1, 60, 0, 99), 10);
        due("98 in 59 days", x.chance(1, 59, 0, 99), 0);
        Bounds.leavesAll("60 days", y -> y.chance(Bounds.MAX, 60, 1, 0));
    }

    @Says(promise = 36, value = "NONE: no such ones.")
    static void chanceRefused() {
        Bounds.refused("seed -1", -1, x -> x.chance(-1, 1, 0, 0));
        Bounds.refused("seed far below", -1, x -> x.chance(Bounds.MIN, 1, 0, 0));
        Bounds.refusedOutside("n", 1, 60, -1, (x, n) -> x.chance(1, n, 0, 0));
        ofPeople((x, i) -> x.chance(1, 1, i, 0));
        Bounds.refusedOutside("row", 0, 99, -1, (x, row) -> x.chance(1, 1, 0, row));
    }

    @Says(promise = 37, value = "TRIED for n DAYS: what all WALK in sum as it goes: 0 as it is, 1 no rain, 2 PERSON "
        + "i isn't there, 3 all wear the BAND, 4 no DEEDS, 5 nobody pushes.")
    static void triedInSixWays() {
        WristGoal x = of("man a 50 40 30;man b 60 20 0;man c 30 20 20;deed d 7 1 1;deed e 0 5 1;plan b d 1;plan c e 2;"
            + "rain 50;");
        x.wear(0, false);
        int[] due = {20 + 17 + 20, 40 + 27 + 20, 17 + 20, 50 + 17 + 20, 20 + 10 + 30, 20 + 17 + 10};
        for (int what = 0; what <= 5; what++) {
            due("what " + what, x.tried(what, 0, 1), due[what]);
        }
        due("without b", x.tried(2, 1, 1), 20 + 20);
        due("without c", x.tried(2, 2, 1), 20 + 17);
        x = of("man a 50 40 99;law push 99;");
        due("nobody pushes by law", x.tried(5, 0, 2), 80);
        due("a pushes by law", x.tried(0, 0, 2), 100);
        x = of("man a 0 90 0;man b 50 1 0;law push 99-behind;law fair 90;bet 1 14;");
        x.go(1);
        due("behind a: 90 more each day", x.tried(0, 0, 1), 91);
        due("behind nobody", x.tried(2, 0, 1), 50);
        due("alone", of("man a 1 1 1;").tried(2, 0, 60), 0);
        x = of("man a 9 1 8;man b 9 1 8;man c 9 1 8;man d 9 1 8;man e 9 2 8;deed a 5 0 1;deed b 1 1 1;deed c 1 1 1;"
            + "deed d 1 1 1;deed e 1 1 1;deed f 7 0 1;plan e f 2;rain 50;");
        x.wear(4, false);
        int[] five = {4 * 0 + 1 + 14, 4 * 9 + 2 + 14, 1 + 14, 9 + 14, 1, 1 + 14};
        for (int what = 0; what <= 5; what++) {
            due("of five, what " + what, x.tried(what, 0, 1), five[what]);
        }
        due("without the fifth", x.tried(2, 4, 1), 0);
    }

    @Says(promise = 37, value = "TRIED (n 0 .. 60);")
    static void triedIn0To60() {
        WristGoal x = of("man a 0 9 0;man b 0 1 0;law habit base;");
        x.go(2);
        for (int what = 0; what <= 5; what++) {
            due("0 days, what " + what, x.tried(what, 0, 0), 0);
            due("60 days, what " + what, x.tried(what, 0, 60), what == 2 ? 60 : 600);
        }
        for (int what = 0; what <= 5; what++) {
            int tried = what;
            Bounds.leavesAll("60 days, what " + what, y -> y.tried(tried, 0, 60));
        }
    }

    @Says(promise = 37, value = "NONE: no such ones (i 0 of all but 2).")
    static void triedRefused() {
        Bounds.refusedOutside("what", 0, 5, -1, (x, what) -> x.tried(what, 0, 1));
        for (int what = 0; what <= 5; what++) {
            int tried = what;
            Bounds.refusedOutside("n of what " + what, 0, 60, -1, (x, n) -> x.tried(tried, 0, n));
            Bounds.refusedOutside("i of what " + what, 0, what == 2 ? 1 : 0, -1, (x, i) -> x.tried(tried, i, 1));
        }
        due("nobody is there", new WristGoal().tried(2, 0, 1), -1);
        due("nobody walks", new WristGoal().tried(0, 0, 60), 0);
        due("nobody pushes", new WristGoal().tried(5, 0, 60), 0);
    }
}

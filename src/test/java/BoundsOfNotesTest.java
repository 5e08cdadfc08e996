/** Boundary cases of notes, of what can be undone, of images and counts: promises 32 to 35 and 38 to 41. */
public final class BoundsOfNotesTest {
    private static final int ALL = 1023;

    public static void main(String[] args) {
        Bounds.run(BoundsOfNotesTest.class);
    }

    private static void due(String what, long got, long want) {
        Bounds.due(what, got, want);
    }

    private static void due(String what, boolean got, boolean want) {
        Bounds.due(what, got, want);
    }

    /** Ten steps by habit a day, five more each time of deed d, one more each time of e; d is planned twice. */
    private static WristGoal counter() {
        return Bounds.of("man a 0 10 0;man b 0 10 0;deed d 0 5 0;deed e 0 1 0;plan a d 2;law habit base;");
    }

    /** The bits of the times from one number up to another. */
    private static int bits(int from, int to) {
        int bits = 0;
        for (int k = from; k <= to; k++) {
            bits |= 1 << k;
        }
        return bits;
    }

    @Says(promise = 32, value = "NOTES, at most 24, numbered from 0 on:")
    static void atMost24Notes() {
        WristGoal x = counter();
        for (int k = 0; k < 24; k++) {
            due("notes", x.count(11), k);
            due("note " + k, k % 3 == 2 ? x.out(k - 1) : x.note(1, 0, k, true), k);
        }
        due("a 25th", x.note(1, 0, 1, true), -1);
        due("24", x.count(11), 24);
    }

    @Says(promise = 32, value = "behind so many DAYS 1 .. 40 (as it goes from the TEXT on) all STEPS of a PERSON so "
        + "far were so many at least, or fewer.")
    static void stepsBehindSoManyDays() {
        for (int days : new int[] {1, 2, 39, 40}) {
            WristGoal x = counter();
            x.note(days, 0, 20 * days, true);
            due("as many behind " + days, x.fits(0, 0), bits(2, 9));
            x = counter();
            x.note(days, 0, 20 * days + 1, true);
            due("1 more behind " + days, x.fits(0, 0), bits(3, 9));
            x = counter();
            x.note(days, 0, 20 * days, false);
            due("fewer behind " + days, x.fits(0, 0), bits(0, 1));
            x = counter();
            x.note(days, 0, 20 * days + 1, false);
            due("as many behind " + days, x.fits(0, 0), bits(0, 2));
        }
        WristGoal x = counter();
        x.go(5);
        x.wear(0, false);
        x.goal(0, 99);
        x.plan(0, 1, 9);
        x.lend(0, 99);
        x.note(1, 0, 20, true);
        x.note(1, 0, 21, false);
        due("from the text on, not from now", x.fits(0, 0), bits(2, 2));
        x = Bounds.of("man a 0 20 0;deed d 0 5 0;rain 50;law habit base;");
        x.note(2, 0, 20, true);
        x.note(2, 0, 21, false);
        due("wet", x.fits(0, 0), bits(0, 0));
        x = Bounds.of("man a 50 40 10;deed d 0 5 0;law habit base;");
        x.note(2, 0, 100, true);
        due("pushed, too", x.fits(0, 0), ALL);
    }

    @Says(promise = 32, value = "A NOTE (STEPS 0 .. 99999): its number;")
    static void notesWithinBounds() {
        WristGoal x = counter();
        due("0 steps at least", x.note(1, 0, 0, true), 0);
        due("all are", x.fits(0, 0), ALL);
        due("fewer than 99999", x.note(40, 1, 99999, false), 1);
        due("all are", x.fits(1, 1), ALL);
        due("fewer than 0", x.note(40, 1, 0, false), 2);
        due("none are", x.fits(1, 1), 0);
        x = counter();
        due("99999 at least", x.note(40, 1, 99999, true), 0);
        due("none are", x.fits(1, 1), 0);
        due("days", x.count(4), 0);
    }

    @Says(promise = 32, value = "NONE: no such ones, or there are 24.")
    static void noteRefused() {
        Bounds.refusedOutside("days", 1, 40, -1, (x, days) -> x.note(days, 0, 1, true));
        Bounds.refusedOutside("man", 0, 1, -1, (x, i) -> x.note(1, i, 1, true));
        Bounds.refusedOutside("steps", 0, 99999, -1, (x, steps) -> x.note(1, 0, steps, false));
        WristGoal x = counter();
        for (int k = 0; k < 23; k++) {
            x.note(1, 0, 0, true);
        }
        due("the 24th", x.note(1, 0, 25, true), 23);
        due("the 25th", x.note(1, 0, 30, true), -1);
        due("24 there are", x.count(11), 24);
        due("the 25th isn't known", x.fits(0, 0), bits(3, 9));
        due("nobody is there", new WristGoal().note(1, 0, 1, true), -1);
    }

    @Says(promise = 33, value = "A note may strike one ahead of it (STRUCK).")
    static void strikesOneAhead() {
        WristGoal x = counter();
        x.note(1, 0, 20, true);
        x.note(1, 0, 21, false);
        due("both", x.fits(0, 0), bits(2, 2));
        due("strike the first", x.out(0), 2);
        due("the second", x.fits(0, 0), bits(0, 2));
        due("strike the second", x.out(1), 3);
        due("none", x.fits(0, 0), ALL);
        due("strike the first again", x.out(0), 4);
        due("none", x.fits(0, 0), ALL);
    }

    @Says(promise = 33, value = "A note that strikes a NOTE: its number;")
    static void strikesAreNumbered() {
        WristGoal x = counter();
        x.note(1, 0, 99, true);
        for (int k = 1; k < 24; k++) {
            due("strikes the latest", x.out(k - 1), k);
        }
        due("notes", x.count(11), 24);
        due("known by all", x.count(12), 24);
    }

    @Says(promise = 33, value = "NONE: no such NOTE, or there are 24.")
    static void outRefused() {
        Bounds.refusedOutside("note", 0, 2, -1, (x, note) -> x.out(note));
        WristGoal x = counter();
        due("without notes", x.out(0), -1);
        x.note(1, 0, 30, true);
        due("itself", x.out(1), -1);
        for (int k = 1; k < 24; k++) {
            x.note(1, 0, 0, true);
        }
        due("a 25th", x.out(0), -1);
        due("24", x.count(11), 24);
        due("nothing is struck", x.fits(0, 0), bits(4, 9));
        Bounds.tell(x, "man a 0 0 0;");
        due("none behind a new text", x.out(0), -1);
    }

    @Says(promise = 34, value = "KNOWN by n (all at first): the first n that aren't STRUCK by one of these")
    static void theFirstOnesAreKnown() {
        WristGoal x = counter();
        due("all at first: none", x.count(12), 0);
        x.note(1, 0, 15, true);
        x.note(1, 0, 20, true);
        x.note(1, 0, 25, true);
        due("all at first", x.count(12), 3);
        int[] due = {ALL, bits(1, 9), bits(2, 9), bits(3, 9)};
        for (int n = 0; n <= 3; n++) {
            due("by " + n, x.known(n), true);
            due("by " + n, x.count(12), n);
            due("by " + n, x.fits(0, 0), due[n]);
        }
        x.known(-1);
        x.out(2);
        due("struck", x.fits(0, 0), bits(2, 9));
        x.known(3);
        due("not struck by one of the first three", x.fits(0, 0), bits(3, 9));
        x.known(4);
        due("struck by one of the first four", x.fits(0, 0), bits(2, 9));
        x.known(2);
        due("the first two", x.fits(0, 0), bits(2, 9));
    }

    @Says(promise = 34, value = "(what strikes may be STRUCK: then it doesn't count; asked from the last one on).")
    static void strikesMayBeStruck() {
        WristGoal x = counter();
        x.note(1, 0, 20, true);
        for (int k = 1; k < 12; k++) {
            x.out(k - 1);
            due("a row of " + k + " strikes", x.fits(0, 0), k % 2 == 1 ? ALL : bits(2, 9));
        }
        x.known(2);
        due("the first strike stands", x.fits(0, 0), ALL);
        x.known(3);
        due("it is struck", x.fits(0, 0), bits(2, 9));
        x = counter();
        x.note(1, 0, 20, true);
        x.out(0);
        x.out(0);
        x.out(1);
        due("one of two strikes stands", x.fits(0, 0), ALL);
        x.out(2);
        due("none stands", x.fits(0, 0), bits(2, 9));
        x.out(3);
        due("the first stands again", x.fits(0, 0), ALL);
    }

    @Says(promise = 34, value = "KNOWN by n from now on (-1: by all, also those to come): true;")
    static void knownFromNowOn() {
        WristGoal x = counter();
        due("0 of 0", x.known(0), true);
        x.note(1, 0, 20, true);
        due("by 0 still", x.count(12), 0);
        due("none", x.fits(0, 0), ALL);
        due("1 of 1", x.known(1), true);
        x.note(1, 0, 21, false);
        due("by 1 still", x.count(12), 1);
        due("the first", x.fits(0, 0), bits(2, 9));
        due("by all", x.known(-1), true);
        due("by 2", x.count(12), 2);
        due("both", x.fits(0, 0), bits(2, 2));
        x.note(1, 0, 99, true);
        due("by all to come", x.count(12), 3);
        due("none fits", x.fits(0, 0), 0);
        due("it is so already", x.known(-1), true);
        for (int k = 3; k < 24; k++) {
            x.note(1, 0, 0, true);
        }
        due("24 of 24", x.known(24), true);
        due("by 24", x.count(12), 24);
    }

    @Says(promise = 34, value = "false: no such n.")
    static void knownRefused() {
        Bounds.refusedOutside("n", -1, 3, 0, (x, n) -> Bounds.bit(x.known(n)));
        WristGoal x = counter();
        due("1 of 0", x.known(1), false);
        x.note(1, 0, 20, true);
        due("2 of 1", x.known(2), false);
        due("by all still", x.count(12), 1);
        x.known(0);
        due("2 of 1", x.known(2), false);
        due("-2", x.known(-2), false);
        due("by 0 still", x.count(12), 0);
        for (int k = 1; k < 24; k++) {
            x.note(1, 0, 20, true);
        }
        due("25 of 24", x.known(25), false);
    }

    @Says(promise = 35, value = "TIMES of a PLAN: 0 .. 9 (bits) that may be in place of those told, by which all "
        + "KNOWN ones are so.")
    static void timesThatMayBe() {
        for (int times = 0; times <= 9; times++) {
            WristGoal x = counter();
            x.note(3, 0, 3 * (10 + 5 * times), true);
            x.note(3, 0, 3 * (10 + 5 * times) + 1, false);
            due("just " + times, x.fits(0, 0), 1 << times);
        }
        WristGoal x = counter();
        due("without notes", x.fits(0, 0), ALL);
        x.note(1, 0, 24, true);
        due("in place of those told", x.fits(0, 0), bits(3, 9));
        due("the plan of d stays besides e", x.fits(0, 1), bits(4, 9));
        due("not by b's", x.fits(1, 0), 0);
        x.note(1, 1, 100, true);
        due("by none", x.fits(0, 0), 0);
    }

    @Says(promise = 35, value = "TIMES (bits; of a PERSON and a DEED, with a PLAN or without);")
    static void fitsWithAPlanOrWithout() {
        WristGoal x = counter();
        x.note(1, 1, 15, true);
        x.note(1, 1, 16, false);
        due("without a plan", x.fits(1, 0), bits(1, 1));
        due("of another deed", x.fits(1, 1), bits(5, 5));
        due("with a plan, of another person", x.fits(0, 0), 0);
        x.plan(0, 0, 9);
        x.plan(1, 0, 9);
        due("calls of plan don't count", x.fits(1, 1), bits(5, 5));
        x.tried(2, 1, 1);
        due("nor what was tried", x.fits(1, 1), bits(5, 5));
        x.ahead(0, 9, 0);
        due("nor days ahead of another one", x.fits(1, 1), bits(5, 5));
        x = Bounds.of("man a 50 40 10;deed d 0 0 0;");
        x.note(1, 0, 50, true);
        x.tried(5, 0, 1);
        due("nor that nobody pushes", x.fits(0, 0), ALL);
        Bounds.leavesAll("al's", y -> y.fits(0, 0));
        Bounds.leavesAll("bo's", y -> y.fits(1, 1));
    }

    @Says(promise = 35, value = "NONE: no such ones.")
    static void fitsRefused() {
        Bounds.refusedOutside("man", 0, 1, -1, (x, i) -> x.fits(i, 0));
        Bounds.refusedOutside("deed", 0, 1, -1, (x, d) -> x.fits(0, d));
        due("no deeds", Bounds.of("man a 1 1 1;").fits(0, 0), -1);
    }

    @Says(promise = 38, value = "==== 4. BANDS, GOALS, PLANS changed, steps LENT by call can be undone, the latest "
        + "first (20 at most), if no DAY went by since.")
    static void twentyAtMost() {
        WristGoal x = counter();
        for (int k = 1; k <= 19; k++) {
            x.goal(0, k);
        }
        x.goal(0, 20);
        due("20", x.count(13), 20);
        x.wear(0, false);
        due("20 still", x.count(13), 20);
        x.lend(0, 7);
        due("20 still", x.count(13), 20);
        for (int left = 19; left >= 0; left--) {
            due("undone", x.undo(), left);
            due("lent", x.has(0, 1), 0);
            due("band", x.has(0, 0), left < 19 ? 1 : 0);
            due("goal", Bounds.manOf(x, 0, 0), Math.min(20, left + 2));
        }
        due("the first two stay", x.undo(), -1);
        due("goal", Bounds.manOf(x, 0, 0), 2);
        x = counter();
        for (int k = 0; k < 25; k++) {
            x.plan(k % 2, k / 2 % 2, 3 + k / 4);
        }
        for (int k = 24; k >= 5; k--) {
            due("the plan of " + k, x.times(k % 2, k / 2 % 2), 3 + k / 4);
            x.undo();
            due("the plan ahead of " + k, x.times(k % 2, k / 2 % 2), 2 + k / 4);
        }
        due("five were too many", x.undo(), -1);
    }

    @Says(promise = 38, value = "The latest is undone: how many are left;")
    static void theLatestIsUndone() {
        WristGoal x = counter();
        x.wear(1, false);
        x.goal(1, 99);
        x.plan(1, 1, 9);
        x.plan(1, 1, 8);
        x.lend(1, 99);
        x.lend(1, 1);
        x.wear(1, true);
        x.wear(1, false);
        int[][] due = {{1, 100, 99, 8}, {0, 100, 99, 8}, {0, 99, 99, 8}, {0, 0, 99, 8}, {0, 0, 99, 9}, {0, 0, 99, 0},
            {0, 0, 0, 0}, {1, 0, 0, 0}};
        for (int k = 0; k < 8; k++) {
            due("left", x.undo(), 7 - k);
            due("band " + k, x.has(1, 0), due[k][0]);
            due("lent " + k, x.has(1, 1), due[k][1]);
            due("goal " + k, Bounds.manOf(x, 1, 0), due[k][2]);
            due("times " + k, x.times(1, 1), due[k][3]);
            due("of another one " + k, x.has(0, 0) + x.times(0, 0), 1 + 2);
        }
        due("none", x.undo(), -1);
        x.lend(0, 5);
        x.undo();
        x.lend(0, 6);
        due("changed again behind an undo", x.undo(), 0);
        due("lent", x.has(0, 1), 0);
    }

    @Says(promise = 38, value = "NONE: none.")
    static void nothingToUndo() {
        WristGoal x = counter();
        due("none", x.undo(), -1);
        x.go(1);
        x.keep();
        x.note(1, 0, 1, true);
        x.known(0);
        due("days, images and notes aren't undone", x.undo(), -1);
        x.goal(0, 9);
        x.go(0);
        due("no day went by", x.count(13), 1);
        x.go(100);
        due("none went by", x.count(13), 1);
        x.go(1);
        due("one went by", x.undo(), -1);
        due("the goal stays", Bounds.manOf(x, 0, 0), 9);
        x.goal(0, 8);
        x.back();
        due("nothing behind back()", x.undo(), -1);
        due("day", x.count(4), 1);
        due("a new object", new WristGoal().undo(), -1);
    }

    @Says(promise = 39, value = "An IMAGE keeps all but NOTES.")
    static void anImageKeepsAllButNotes() {
        WristGoal x = Bounds.busy();
        WristGoal y = Bounds.busy();
        x.undo();
        y.undo();
        x.keep();
        y.keep();
        x.go(9);
        x.wear(0, false);
        x.wear(1, true);
        x.goal(1, 1);
        x.plan(0, 0, 0);
        x.go(9);
        x.lend(0, 7);
        x.back();
        y.back();
        Bounds.same("all is as it was", x, y);
        x = counter();
        x.note(1, 0, 20, true);
        x.keep();
        x.note(1, 0, 21, false);
        x.known(1);
        x.back();
        due("notes stay", x.count(11), 2);
        due("by how many they are known", x.count(12), 1);
    }

    @Says(promise = 39, value = "An IMAGE is kept (in place of one ahead): which DAY it is.")
    static void anImageInPlaceOfOne() {
        WristGoal x = counter();
        due("day 0", x.keep(), 0);
        x.go(3);
        x.goal(0, 7);
        due("day 3", x.keep(), 3);
        due("it can be undone still", x.undo(), 0);
        x.go(5);
        due("the latest one", x.back(), 3);
        due("its goal", Bounds.manOf(x, 0, 0), 7);
        due("in a new object", new WristGoal().keep(), 0);
        Bounds.due("nothing else changes", Bounds.busy().keep(), Bounds.busy().count(4));
    }

    @Says(promise = 40, value = "All (but NOTES) is as in the IMAGE (nothing to undo then): which DAY it is;")
    static void backToTheImage() {
        WristGoal x = Bounds.of("man a 50 50 30;deed d 1 1 1;plan a d 3;rain 50;seed 9;bet 5 2;pay 1 1;");
        x.go(3);
        x.lend(0, 7);
        x.keep();
        x.goal(0, 60);
        due("day", x.back(), 3);
        due("nothing to undo", x.count(13), 0);
        due("nothing to undo", x.undo(), -1);
        due("lent as in the image", x.has(0, 1), 7);
        due("goal as in the image", Bounds.manOf(x, 0, 0), 50);
        x.go(20);
        int wet = x.count(5);
        int walked = x.count(6);
        due("back again", x.back(), 3);
        x.go(20);
        due("the same numbers", x.count(5), wet);
        due("the same days", x.count(6), walked);
        due("and again", x.back(), 3);
    }

    @Says(promise = 40, value = "NONE: there is none.")
    static void noImage() {
        WristGoal x = counter();
        x.goal(0, 9);
        x.go(2);
        x.goal(0, 8);
        due("none", x.back(), -1);
        due("all stays", Bounds.manOf(x, 0, 0), 8);
        due("to undo, too", x.count(13), 1);
        due("the day, too", x.count(4), 2);
        x.keep();
        Bounds.tell(x, "man #");
        due("a faulty text leaves it", x.back(), 2);
        x.text(0);
        due("none behind a text", x.back(), -1);
        due("a new object", new WristGoal().back(), -1);
    }

    @Says(promise = 41, value = "0 PEOPLE, 1 DEEDS, 2 PLANS told, 3 KNOTS, 4 the DAY, 5 WET DAYS so far, 6 WALKED "
        + "by all, 7 STEPS of all, 8 PENCE of all, 9 WON by all, 10 how often all were BROKEN, 11 NOTES, 12 by how "
        + "many it is KNOWN, 13 what can be undone.")
    static void fourteenCounts() {
        WristGoal x = Bounds.of("man a 50 50 0;man b 30 30 0;man c 0 10 0;deed d 1 2 1;deed e 2 3 1;plan a d 3;"
            + "bet 5 2;pay 2 30;law fair 1+2;rain 100;law habit base;law push 50;");
        x.go(3);
        x.wear(0, false);
        x.wear(1, false);
        x.go(1);
        x.plan(2, 1, 4);
        x.lend(0, 5);
        x.goal(1, 5);
        x.note(1, 0, 1, true);
        x.out(0);
        x.known(1);
        int walked = 3 * (25 + 3 + 19) + 25 + 3 + 3 * 30 + 15 + 4 * 5;
        int steps = 3 * 50 + 3 * 30 + 4 * 5;
        int[] due = {3, 2, 1, 5, 4, 4, walked, steps, 12, 10, 2, 2, 1, 3};
        for (int what = 0; what < due.length; what++) {
            due("count(" + what + ")", x.count(what), due[what]);
        }
        x = Bounds.of("man a 0 1 0;man b 0 2 0;man c 0 3 0;man d 0 4 0;man e 9 9 0;pay 3 1;bet 7 1;");
        x.go(1);
        x.wear(4, false);
        x.go(1);
        int[] five = {5, 0, 0, 0, 2, 0, 2 * 19, 19 + 10, 27, 14, 1, 0, 0, 0};
        for (int what = 0; what < five.length; what++) {
            due("of five, count(" + what + ")", x.count(what), five[what]);
        }
        WristGoal y = Bounds.busy();
        for (int what = 0; what <= 13; what++) {
            due("busy has each, what " + what, y.count(what) > 0, true);
            int asked = what;
            Bounds.leavesAll("count(" + what + ")", z -> z.count(asked));
        }
    }

    @Says(promise = 41, value = "NONE for another what.")
    static void countRefused() {
        Bounds.refusedOutside("what", 0, 13, -1, (x, what) -> x.count(what));
        due("a new object", new WristGoal().count(14), -1);
    }

    @Says(promise = 41, value = "An object is used for at most 512 calls after it has been made; what later calls "
        + "answer is free.")
    static void fiveHundredAndTwelveCalls() {
        WristGoal x = new WristGoal();
        for (int k = 1; k <= 35; k++) {
            due("feed", Bounds.feed(x, "man a 9 9 9;deed d 1 1 1;", 20 * (k - 1)), 20 * k);
        }
        due("text", x.text(700), 2);
        for (int k = 1; k <= 100; k++) {
            due("go", x.go(99), 99 * k);
        }
        for (int k = 0; k < 24; k++) {
            due("note", x.note(40, 0, 99999, false), k);
        }
        for (int k = 0; k < 10; k++) {
            due("lend", x.lend(0, 99), 99 * (k + 1));
        }
        for (int k = 35 + 1 + 100 + 24 + 10 + 1; k <= 511; k++) {
            due("call " + k, k % 2 == 0 ? x.goal(0, k % 100) : x.plan(0, 0, k / 2 % 10), true);
        }
        due("the 512th call", x.count(13), 20);
    }
}

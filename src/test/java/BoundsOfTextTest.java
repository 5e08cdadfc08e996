/** Boundary cases of the tape, of the text and of its faults: promises 1 to 5 and the terms of a TEXT. */
public final class BoundsOfTextTest {
    private static final int BLANKS = 0x20202020;
    private static final String A_AND_D = "man a 1 1 1;deed d 1 1 1;";
    private static final String FIVE_MEN = "man a 1 1 1;man b 1 1 1;man c 1 1 1;man d 1 1 1;man e 1 1 1;";
    private static final String SIX_DEEDS =
        "deed a 1 1 1;deed b 1 1 1;deed c 1 1 1;deed d 1 1 1;deed e 1 1 1;deed f 1 1 1;";
    private static final String[] LANGUAGE = {"man", "deed", "plan", "bet", "pay", "rain", "seed", "law", "push",
        "habit", "fair", "or", "and", "not", "base", "goal", "steps", "row", "lacks", "behind", "day"};
    private static final String[] NAMES = {"base", "goal", "steps", "row", "lacks", "behind", "day"};

    public static void main(String[] args) {
        Bounds.run(BoundsOfTextTest.class);
    }

    private static void due(String what, long got, long want) {
        Bounds.due(what, got, want);
    }

    private static void good(String text) {
        Bounds.of(text);
    }

    private static void faulty(String text, int fault, int place) {
        Bounds.faulty(text, fault, place);
    }

    /** A number of a line: the least and the most that are good, and those beside them that are too much. */
    private static void number(String ahead, int low, int high, String behind) {
        for (int v : new int[] {low, high}) {
            good(ahead + v + behind);
            good(ahead + "000" + v + behind);
        }
        faulty(ahead + (high + 1) + behind, 2, ahead.length());
        if (low > 0) {
            faulty(ahead + (low - 1) + behind, 2, ahead.length());
        }
        faulty(ahead + "4294967296" + behind, 2, ahead.length());
        faulty(ahead + (4294967296L + high) + behind, 2, ahead.length());
        faulty(ahead + "99999999999999999999999999" + behind, 2, ahead.length());
    }

    private static int feedBlanks(WristGoal x) {
        return x.feed(BLANKS, BLANKS, BLANKS, BLANKS, BLANKS);
    }

    @Says(promise = 1, value = "A TEXT without LINES;")
    static void aNewObjectHasNoLines() {
        WristGoal x = new WristGoal();
        for (int what = 0; what <= 13; what++) {
            due("count(" + what + ")", x.count(what), 0);
        }
        due("no fault", x.fault(0), 0);
        due("no place", x.fault(1), -1);
        due("no person", Bounds.manOf(x, 0, 0), Bounds.NO_PERSON);
        due("no deed", x.deed(0, 0), -1);
        due("days go by", x.go(7), 7);
        Bounds.same("as a text of no lines", new WristGoal(), Bounds.of(""));
    }

    @Says(promise = 1, value = "an empty TAPE.")
    static void aNewTapeIsEmpty() {
        WristGoal x = new WristGoal();
        due("one byte", x.text(1), -2);
        due("no byte", x.text(0), 0);
        due("the first twenty", feedBlanks(x), 20);
    }

    @Says(promise = 2, value = "Twenty bytes come behind the TAPE, four of each number, the highest first: how many "
        + "it has;")
    static void bytesComeInOrder() {
        for (int k = 0; k < 40; k++) {
            WristGoal x = new WristGoal();
            StringBuilder text = new StringBuilder(" ".repeat(40));
            text.setCharAt(k, (char) (128 + k));
            due("twenty", Bounds.feed(x, text.toString(), 0), 20);
            due("forty", Bounds.feed(x, text.toString(), 20), 40);
            due("byte " + k, x.text(40), -1);
            due("its place", x.fault(1), k);
        }
        WristGoal x = new WristGoal();
        x.feed(0x72616966, BLANKS, BLANKS, BLANKS, BLANKS);
        x.text(20);
        x.feed(0x7261696e, 0x20353b0a, 0x0a0a0a0a, 0x20202020, 0x0a200a20);
        due("rain 5; and blanks", x.text(20), 1);
    }

    @Says(promise = 2, value = "NONE, and none come, if it would have more than 700.")
    static void tapeHolds700() {
        WristGoal x = new WristGoal();
        Bounds.feed(x, "rain 7;", 0);
        for (int k = 2; k <= 35; k++) {
            due("feed " + k, feedBlanks(x), 20 * k);
        }
        due("feed 36", x.feed(1, 1, 1, 1, 1), -1);
        due("feed 37", x.feed(0x23232323, 1, 1, 1, 1), -1);
        due("not 701", x.text(701), -2);
        due("700 as they were", x.text(700), 1);
        due("no fault", x.fault(0), 0);
        due("there is room again", x.feed(1, 1, 1, 1, 1), 20);
    }

    @Says(promise = 2, value = "NONE, and none come, if it would have more than 700.")
    static void lastByteOf700IsRead() {
        String text = "rain 5" + " ".repeat(693) + ";";
        good(text);
        WristGoal x = new WristGoal();
        Bounds.feedAll(x, text);
        due("without the last one", x.text(699), -1);
        due("place", x.fault(1), 699);
        String ahead = "law fair " + " ".repeat(690);
        for (String last : new String[] {"1", "9", "(", " ", "\n"}) {
            faulty(ahead + last, 1, 700);
        }
        for (String last : new String[] {"a", "z", "<", ">", "=", ";", "#"}) {
            faulty(ahead + last, 1, 699);
        }
        faulty("law fair 1" + " ".repeat(689) + "<", 1, 700);
        faulty("law fair 1" + " ".repeat(689) + ">", 1, 700);
        faulty("law" + " ".repeat(693) + "fair", 1, 700);
    }

    @Says(promise = 3, value = "The TAPE's first n bytes (it is empty then) are the TEXT")
    static void firstBytesAreTheText() {
        WristGoal x = new WristGoal();
        Bounds.feed(x, "rain 100;bet 3 5;", 0);
        due("nine bytes", x.text(9), 1);
        due("no bet", x.count(0), 0);
        x.go(1);
        due("rain", x.count(5), 1);
        due("the tape is empty", x.text(1), -2);
        due("twenty again", feedBlanks(x), 20);
        due("the whole tape", x.text(20), 0);
        Bounds.feed(x, "man a 1 1 1;", 0);
        due("no bytes", x.text(0), 0);
        due("no person", x.count(0), 0);
        due("empty behind no bytes, too", x.text(1), -2);
        Bounds.feed(x, "man #", 0);
        due("a fault", x.text(20), -1);
        due("empty behind a fault, too", feedBlanks(x), 20);
    }

    @Says(promise = 3, value = "(DAY 0, all wear the BAND, nothing LENT, SUMS 0, no NOTES, all KNOWN, no IMAGE, "
        + "nothing to undo then):")
    static void aTextBeginsAnew() {
        String[] texts = {"man al 50 40 9;man bo 60 30 5;deed d 3 5 2;deed e 4 2 1;plan al e 1;rain 40;seed 7;",
            "man x 9 9 9;", ""};
        for (String text : texts) {
            Bounds.same("as of a new object", busyBut(text), Bounds.of(text));
            WristGoal x = busyBut(text);
            Bounds.tell(x, text);
            Bounds.same("told twice", x, Bounds.of(text));
            x = busyBut(text);
            Bounds.tell(x, "man #");
            Bounds.tell(x, text);
            Bounds.same("told twice, with a fault between", x, Bounds.of(text));
        }
        WristGoal x = busyBut("man al 50 40 9;man bo 60 30 5;deed d 3 5 2;");
        due("day", x.count(4), 0);
        due("wet days", x.count(5), 0);
        due("band", x.has(0, 0) + x.has(1, 0), 2);
        due("lent", x.has(0, 1) + x.has(1, 1), 0);
        due("sums", Bounds.manOf(x, 0, 5) + Bounds.manOf(x, 1, 5), 0);
        due("notes", x.count(11), 0);
        due("known", x.count(12), 0);
        due("image", x.back(), -1);
        due("undo", x.undo(), -1);
        due("a note", x.note(1, 0, 999, true), 0);
        due("it is known", x.fits(0, 0), 0);
    }

    /** A text told to an object in which nothing was as at first. */
    private static WristGoal busyBut(String text) {
        WristGoal x = Bounds.busy();
        x.text(0);
        Bounds.tell(x, "man al 99 9 9;man bo 5 9 9;deed e 1 1 1;plan al e 9;bet 1 2;pay 9 0;rain 100;seed 9;"
            + "law push 1+1;law habit 9;law fair 9;");
        x.lend(0, 99);
        x.lend(1, 5);
        x.go(1);
        x.wear(0, false);
        x.go(2);
        x.lend(0, 5);
        x.keep();
        x.note(1, 0, 999, true);
        x.known(0);
        due("lines", Bounds.tell(x, text), text.chars().filter(c -> c == ';').count());
        return x;
    }

    @Says(promise = 3, value = "how many LINES;")
    static void linesAreCounted() {
        due("none", Bounds.tell(new WristGoal(), ""), 0);
        due("blanks alone", Bounds.tell(new WristGoal(), " \n \n"), 0);
        due("one", Bounds.tell(new WristGoal(), "rain 0;"), 1);
        StringBuilder most = new StringBuilder(FIVE_MEN + SIX_DEEDS);
        for (int k = 0; k < 12; k++) {
            most.append("plan ").append((char) ('a' + k % 5)).append(' ').append((char) ('a' + k % 6)).append(" 1;");
        }
        most.append("bet 1 1;pay 1 1;rain 1;seed 1;law push 1;law habit 1;law fair 1;");
        due("thirty", Bounds.tell(new WristGoal(), most.toString()), 30);
    }

    @Says(promise = 3, value = "NONE with a FAULT, all stays;")
    static void aFaultLeavesAll() {
        String[] texts = {"x", FIVE_MEN + "x",
            A_AND_D + "plan a d 1;bet 9 9;pay 9 9;rain 9;seed 9;law push 1;law habit 1;law fair 1;#"};
        for (String text : texts) {
            faulty(text, 1, text.length() - 1);
        }
        WristGoal x = Bounds.of("man a 9 9 9;law fair 5;");
        due("a fault in the law", Bounds.tell(x, "man b 1 1 1;law fair 6+;"), -1);
        due("knots stay", x.count(3), 1);
        due("the law stays", x.law(2, 0), 5);
        due("the name stays", x.named(0, Bounds.letters("a")), 0);
        for (String e : new String[] {"1+", "not (1+2*", "((((((((", "1<2<", "1=2 and 3<(4", "not not", "#"}) {
            x = Bounds.of("");
            due("a fault", Bounds.tell(x, "law push " + e), -1);
            due("nothing of it is left", Bounds.tell(x, "man a 1 1 1;law fair 1+((((((((2<3))))))))<3;"), 2);
            due("its value", x.law(2, 0), 1);
            due("its knots", x.count(3), 7);
        }
    }

    @Says(promise = 3, value = "-2, and the TAPE stays: there are not so many, n is below 0.")
    static void tooManyBytes() {
        Bounds.refusedOutside("text", 0, 20, -2, (x, n) -> x.text(n));
        WristGoal x = new WristGoal();
        due("1 of 0", x.text(1), -2);
        Bounds.feed(x, "rain 7;", 0);
        due("21 of 20", x.text(21), -2);
        due("-1 of 20", x.text(-1), -2);
        due("20 of 20", x.text(20), 1);
        due("1 of 0 again", x.text(1), -2);
    }

    @Says(promise = 4, value = "Of the latest text() that was not -2,")
    static void theLatestText() {
        WristGoal x = new WristGoal();
        Bounds.tell(x, "rain 101;");
        due("-2", x.text(1), -2);
        due("the fault stays", x.fault(0), 2);
        due("its place stays", x.fault(1), 5);
        Bounds.tell(x, "plan a b 1;");
        due("another fault", x.fault(0), 4);
        due("its place", x.fault(1), 5);
        Bounds.tell(x, "rain 100;");
        due("none", x.fault(0), 0);
        due("no place", x.fault(1), -1);
        due("-2", x.text(-1), -2);
        due("none still", x.fault(0), 0);
        due("no place still", x.fault(1), -1);
        Bounds.tell(x, "#");
        x.go(1);
        x.keep();
        x.back();
        due("no other call changes it", x.fault(0), 1);
        due("nor its place", x.fault(1), 0);
    }

    @Says(promise = 4, value = "what 0: its FAULT (0), 1: its place (NONE without).")
    static void faultAndPlace() {
        WristGoal x = new WristGoal();
        due("without a text", x.fault(0), 0);
        due("without a text", x.fault(1), -1);
        String[] texts = {"#", "rain 101;", "rain 1;rain 1;", "plan a"};
        int[] places = {0, 5, 7, 5};
        for (int k = 0; k < texts.length; k++) {
            Bounds.tell(x, texts[k]);
            due("fault of " + texts[k], x.fault(0), k + 1);
            due("place of " + texts[k], x.fault(1), places[k]);
        }
        Bounds.tell(x, "");
        due("none", x.fault(0), 0);
        due("no place", x.fault(1), -1);
    }

    @Says(promise = 4, value = "NONE for another what.")
    static void faultOfAnotherWhat() {
        Bounds.refusedOutside("fault", 0, 1, -1, (x, what) -> x.fault(what));
    }

    @Says(promise = 3, value = "A TEXT: { LINE ';' }.")
    static void everyLineEnds() {
        good("");
        good("rain 1;");
        good("rain 1;seed 1;");
        faulty(";", 1, 0);
        faulty("rain 1;;", 1, 7);
        faulty("rain 1", 1, 6);
        faulty("rain 1 seed 1;", 1, 7);
        faulty("rain 1;seed 1", 1, 13);
        faulty("5;", 1, 0);
        faulty("abc;", 1, 0);
    }

    @Says(promise = 3, value = "LINE: man W N N N | deed W N N N | plan W W N | bet N N | pay N N | rain N | seed N "
        + "| law RULE E.")
    static void eachLineHasItsParts() {
        String[] lines = {"man w 1 1 1", "deed w 1 1 1", "plan a d 1", "bet 1 1", "pay 1 1", "rain 1", "seed 1",
            "law push 1"};
        for (String line : lines) {
            good(A_AND_D + line + ";");
            String[] parts = line.split(" ");
            String ahead = A_AND_D + parts[0] + " ";
            for (int k = 1; k < parts.length; k++) {
                faulty(ahead + ";", 1, ahead.length());
                faulty(ahead, 1, ahead.length());
                faulty(ahead + (Character.isDigit(parts[k].charAt(0)) ? "x" : "1"), 1, ahead.length());
                faulty(ahead + "+", 1, ahead.length());
                ahead += parts[k] + " ";
            }
            faulty(ahead, 1, ahead.length());
            faulty(ahead + "1;", 1, ahead.length());
            faulty(ahead + "x;", 1, ahead.length());
        }
        for (String word : LANGUAGE) {
            if (!String.join(" ", lines).matches(".*\\b" + word + "\\b.*")) {
                faulty(word + " 1;", 1, 0);
            }
        }
        faulty("push 1;", 1, 0);
    }

    @Says(promise = 3, value = "RULE: push | habit | fair.")
    static void rulesAreThree() {
        WristGoal x = Bounds.of("man a 1 1 1;law push 11;law habit 22;law fair 33;");
        due("push", x.law(0, 0), 11);
        due("habit", x.law(1, 0), 22);
        due("fair", x.law(2, 0), 33);
        for (String word : LANGUAGE) {
            if (!word.equals("push") && !word.equals("habit") && !word.equals("fair")) {
                faulty("law " + word + " 1;", 1, 4);
            }
        }
        faulty("law fairs 1;", 1, 4);
        faulty("law fai 1;", 1, 4);
        faulty("law 1;", 1, 4);
        faulty("law (1);", 1, 4);
    }

    @Says(promise = 3, value = "Words: small letters in a row;")
    static void wordsAreSmallLetters() {
        good("man az 1 1 1;");
        faulty("Man a 1 1 1;", 1, 0);
        faulty("mAn a 1 1 1;", 1, 0);
        faulty("man A 1 1 1;", 1, 4);
        faulty("man aB 1 1 1;", 1, 5);
        faulty("man ` 1 1 1;", 1, 4);
        faulty("man { 1 1 1;", 1, 4);
        faulty("man a_b 1 1 1;", 1, 5);
        faulty("man " + (char) 225 + " 1 1 1;", 1, 4);
        faulty("ma n a 1 1 1;", 1, 0);
        faulty("mana 1 1 1;", 1, 0);
    }

    @Says(promise = 3, value = "W: one of 1 .. 6 letters, none of those of the language;")
    static void namesHaveSixLetters() {
        for (String name : new String[] {"a", "z", "aaaaaa", "zzzzzz", "abcdef", "behin", "dayx", "mans", "no", "ow"}) {
            WristGoal x = Bounds.of("man " + name + " 1 1 1;deed " + name + " 1 1 1;plan " + name + " " + name + " 1;");
            due(name, x.named(0, Bounds.letters(name)), 0);
            due(name, x.named(1, Bounds.letters(name)), 0);
        }
        for (String name : new String[] {"aaaaaaa", "zzzzzzz", "abcdefg", "behinds", "abcdefghijklmnopqrstuvwxyz"}) {
            faulty("man " + name + " 1 1 1;", 1, 4);
            faulty("deed " + name + " 1 1 1;", 1, 5);
            faulty("plan " + name + " d 1;", 1, 5);
            faulty("man a 1 1 1;plan a " + name + " 1;", 1, 19);
        }
        for (String word : LANGUAGE) {
            faulty("man " + word + " 1 1 1;", 1, 4);
            faulty("deed " + word + " 1 1 1;", 1, 5);
            faulty("plan " + word + " d 1;", 1, 5);
            faulty("man a 1 1 1;plan a " + word + " 1;", 1, 19);
        }
    }

    @Says(promise = 3, value = "N: digits.")
    static void numbersAreDigits() {
        due("all digits", Bounds.value("1234+5678+90"), 7002);
        due("zeros ahead", Bounds.manOf(Bounds.of("man a 007 00000000000000000000000099 0;"), 0, 1), 99);
        due("no blank needed", Bounds.manOf(Bounds.of("man a1 2 3;"), 0, 2), 3);
        faulty("rain :;", 1, 5);
        faulty("rain /;", 1, 5);
        faulty("rain -1;", 1, 5);
        faulty("rain +1;", 1, 5);
        faulty("rain 1.5;", 1, 6);
        faulty("rain 1x;", 1, 6);
        faulty("rain 1 0;", 1, 7);
        faulty("rain " + (char) 178 + ";", 1, 5);
    }

    @Says(promise = 3, value = "Blanks 10, 32.")
    static void blanksAreTwo() {
        for (int sign = 0; sign < 256; sign++) {
            String text = "rain" + (char) sign + "5;";
            boolean letter = sign >= 'a' && sign <= 'z';
            if (sign == 10 || sign == 32 || sign >= '0' && sign <= '9') {
                good(text);
            } else {
                faulty(text, 1, letter ? 0 : 4);
            }
        }
        good("\n \nman\na\n1\n 1 \n1\n;\n \n");
        faulty("\r", 1, 0);
        faulty("rain 5;\t", 1, 7);
        faulty("rain 5; \0", 1, 8);
    }

    @Says(promise = 3, value = "E: A { or A }.")
    static void orJoinsAnds() {
        due("0 or 0", Bounds.value("0 or 0"), 0);
        due("0 or 0 or 3", Bounds.value("0 or 0 or 3"), 1);
        due("and ahead of or", Bounds.value("1 or 0 and 0"), 1);
        due("and ahead of or", Bounds.value("0 and 0 or 1"), 1);
        faulty("law fair or 1;", 1, 9);
        faulty("law fair 1 or;", 1, 13);
        faulty("law fair 1 or", 1, 13);
        faulty("law fair 1 or or 1;", 1, 14);
        faulty("law fair 1 or and 1;", 1, 14);
    }

    @Says(promise = 3, value = "A: B { and B }.")
    static void andJoinsNots() {
        due("1 and 2", Bounds.value("1 and 2"), 1);
        due("1 and 2 and 0", Bounds.value("1 and 2 and 0"), 0);
        due("not ahead of and", Bounds.value("not 0 and 0"), 0);
        faulty("law fair and 1;", 1, 9);
        faulty("law fair 1 and;", 1, 14);
        faulty("law fair 1 and", 1, 14);
        faulty("law fair 1 and and 1;", 1, 15);
        faulty("law fair 1 and or 1;", 1, 15);
    }

    @Says(promise = 3, value = "B: not B | C.")
    static void notStandsAheadOfComparisons() {
        due("not not not 5", Bounds.value("not not not 5"), 0);
        due("not of a comparison", Bounds.value("not 1=2"), 1);
        due("not of a sum", Bounds.value("not 0+5"), 0);
        due("behind and, or, (", Bounds.value("(not 0) and not 0 or not 0"), 1);
        due("in ( behind any sign", Bounds.value("1+(not 0)*(not 0)-(not 0)/(not 0)+((not 0)=(not 0))"), 2);
        due("62 of them", Bounds.value("not ".repeat(62) + "5"), 1);
        due("63 of them", Bounds.value("not ".repeat(63) + "5"), 0);
        due("63 of them, and eight (", Bounds.value("not (".repeat(8) + "not ".repeat(55) + "5" + ")".repeat(8)), 0);
        faulty("law fair not;", 1, 12);
        faulty("law fair not", 1, 12);
        faulty("law fair 1 not 1;", 1, 11);
        faulty("law fair 1+not 1;", 1, 11);
        faulty("law fair 1-not 1;", 1, 11);
        faulty("law fair 1*not 1;", 1, 11);
        faulty("law fair 1/not 1;", 1, 11);
        for (String sign : new String[] {"<", "<=", "=", "<>", ">=", ">"}) {
            faulty("law fair 1" + sign + "not 1;", 1, 10 + sign.length());
        }
    }

    @Says(promise = 3, value = "C: S [ ( < | <= | = | <> | >= | > ) S ].")
    static void oneComparisonAtMost() {
        due("<", Bounds.value("(1<2)+(2<2)*10+(3<2)*100"), 1);
        due("<=", Bounds.value("(1<=2)+(2<=2)*10+(3<=2)*100"), 11);
        due("=", Bounds.value("(1=2)+(2=2)*10+(3=2)*100"), 10);
        due("<>", Bounds.value("(1<>2)+(2<>2)*10+(3<>2)*100"), 101);
        due(">=", Bounds.value("(1>=2)+(2>=2)*10+(3>=2)*100"), 110);
        due(">", Bounds.value("(1>2)+(2>2)*10+(3>2)*100"), 100);
        due("sums on both sides", Bounds.value("1+2*3=9-2"), 1);
        due("one each", Bounds.value("1<2 and 2<3 or 3<4"), 1);
        due("in parentheses", Bounds.value("(1<2)<(3<4)+1"), 1);
        due("one in each law", Bounds.of("law push 1<2;law habit 2<3;law fair 3<4;").count(3), 9);
        due("behind not", Bounds.value("1<2 and not 2<3"), 0);
        for (String sign : new String[] {"<", "<=", "=", "<>", ">=", ">"}) {
            faulty("law fair 1<2" + sign + "3;", 1, 12);
            faulty("law fair (1<2)" + sign + "(3)" + sign + "4;", 1, 17 + sign.length());
            faulty("law fair 1" + sign + ";", 1, 10 + sign.length());
            faulty("law fair " + sign + "1;", 1, 9);
        }
        faulty("law fair 1<(2)+3<4;", 1, 16);
        faulty("law fair (1<2<3);", 1, 13);
    }

    @Says(promise = 3, value = "S: T { ( + | - ) T }.")
    static void sumsGoFromTheLeft() {
        due("from the left", Bounds.value("9-3-2+1"), 5);
        due("products first", Bounds.value("9-2*3+8/4"), 5);
        due("below 0", Bounds.value("3-9"), -6);
        faulty("law fair +1;", 1, 9);
        faulty("law fair -1;", 1, 9);
        faulty("law fair 1+;", 1, 11);
        faulty("law fair 1-", 1, 11);
        faulty("law fair 1+-1;", 1, 11);
        faulty("law fair 1 1;", 1, 11);
    }

    @Says(promise = 3, value = "T: P { ( * | / ) P }.")
    static void productsGoFromTheLeft() {
        due("from the left", Bounds.value("7/2*2"), 6);
        due("from the left", Bounds.value("16/4/2"), 2);
        faulty("law fair *1;", 1, 9);
        faulty("law fair /1;", 1, 9);
        faulty("law fair 1*;", 1, 11);
        faulty("law fair 1/", 1, 11);
        faulty("law fair 1**1;", 1, 11);
        faulty("law fair 1*-1;", 1, 11);
    }

    @Says(promise = 3, value = "P: N | NAME | '(' E ')';")
    static void partsAreThree() {
        due("a number", Bounds.value("5"), 5);
        due("a name", Bounds.value("base"), 30);
        due("an E", Bounds.value("(2+3)*(1 or 0)"), 5);
        due("an E in an E", Bounds.value("((((5))))"), 5);
        faulty("law fair ();", 1, 10);
        faulty("law fair (1;", 1, 11);
        faulty("law fair (1", 1, 11);
        faulty("law fair 1);", 1, 10);
        faulty("law fair (1));", 1, 12);
        faulty("law fair (1)(2);", 1, 12);
        faulty("law fair 1(2);", 1, 10);
        faulty("law fair );", 1, 9);
        faulty("law fair (1+);", 1, 12);
        faulty("law fair ;", 1, 9);
        faulty("law fair 1;(2);", 1, 11);
    }

    @Says(promise = 3, value = "N of E 0 .. 9999.")
    static void numbersOfE() {
        number("law fair ", 0, 9999, ";");
        number("law fair 1+(", 0, 9999, ");");
        due("0", Bounds.value("0"), 0);
        due("9999", Bounds.value("9999"), 9999);
    }

    @Says(promise = 3, value = "NAME: base goal steps row lacks behind day.")
    static void namesAreSeven() {
        for (String name : NAMES) {
            good("law fair " + name + ";");
        }
        for (String word : LANGUAGE) {
            if (!java.util.Arrays.asList(NAMES).contains(word) && !word.equals("not")) {
                faulty("law fair " + word + ";", 1, 9);
            }
        }
        faulty("law fair x;", 1, 9);
        faulty("law fair days;", 1, 9);
        faulty("man al 1 1 1;law fair al;", 1, 22);
    }

    @Says(promise = 3, value = "A = (or > behind <) right behind < or > belongs to it.")
    static void signsOfTwo() {
        due("<=", Bounds.value("1<=1"), 1);
        due("<>", Bounds.value("1<>1"), 0);
        due(">=", Bounds.value("1>=1"), 1);
        due("one knot", Bounds.of("law fair 1<=1;").count(3), 3);
        due("one knot", Bounds.of("law fair 1<>1;").count(3), 3);
        due("one knot", Bounds.of("law fair 1>=1;").count(3), 3);
        faulty("law fair 1< =1;", 1, 12);
        faulty("law fair 1> =1;", 1, 12);
        faulty("law fair 1< >1;", 1, 12);
        faulty("law fair 1<\n=1;", 1, 12);
        faulty("law fair 1=<1;", 1, 11);
        faulty("law fair 1=>1;", 1, 11);
        faulty("law fair 1==1;", 1, 11);
        faulty("law fair 1><1;", 1, 11);
        faulty("law fair 1<<1;", 1, 11);
        faulty("law fair 1>>1;", 1, 11);
        faulty("law fair 1<==1;", 1, 12);
        faulty("law fair 1<=>1;", 1, 12);
        faulty("law fair 1<>=1;", 1, 12);
        faulty("law fair 1>==1;", 1, 12);
        WristGoal x = new WristGoal();
        Bounds.feedAll(x, "law fair 1<=1;");
        due("cut behind <", x.text(11), -1);
        due("more must come", x.fault(1), 11);
    }

    @Says(promise = 3, value = "PEOPLE (man), at most 5:")
    static void atMostFivePeople() {
        WristGoal x = Bounds.of(FIVE_MEN);
        due("five", x.count(0), 5);
        due("the fifth", x.named(0, Bounds.letters("e")), 4);
        due("the fifth", Bounds.manOf(x, 4, 0), 1);
        due("no sixth", Bounds.manOf(x, 5, 0), Bounds.NO_PERSON);
        faulty(FIVE_MEN + "man f 1 1 1;", 2, FIVE_MEN.length());
    }

    @Says(promise = 3, value = "GOAL, BASE, PUSH, 0 .. 99 each.")
    static void numbersOfPeople() {
        number("man a ", 0, 99, " 1 1;");
        number("man a 1 ", 0, 99, " 1;");
        number("man a 1 1 ", 0, 99, ";");
        WristGoal x = Bounds.of("man a 99 98 97;man b 0 1 2;");
        int[] due = {99, 98, 97, 0, 1, 2};
        for (int k = 0; k < 6; k++) {
            due("number " + k, Bounds.manOf(x, k / 3, k % 3), due[k]);
        }
    }

    @Says(promise = 3, value = "DEEDS, at most 6:")
    static void atMostSixDeeds() {
        WristGoal x = Bounds.of(SIX_DEEDS);
        due("six", x.count(1), 6);
        due("the sixth", x.named(1, Bounds.letters("f")), 5);
        due("the sixth", x.deed(5, 0), 1);
        due("no seventh", x.deed(6, 0), -1);
        faulty(SIX_DEEDS + "deed g 1 1 1;", 2, SIX_DEEDS.length());
    }

    @Says(promise = 3, value = "TRUE 0 .. 20, COUNTED 0 .. 20 steps, MINUTES 0 .. 9.")
    static void numbersOfDeeds() {
        number("deed a ", 0, 20, " 1 1;");
        number("deed a 1 ", 0, 20, " 1;");
        number("deed a 1 1 ", 0, 9, ";");
        WristGoal x = Bounds.of("deed a 20 19 9;deed b 0 1 0;");
        int[] due = {20, 19, 9, 0, 1, 0};
        for (int k = 0; k < 6; k++) {
            due("number " + k, x.deed(k / 3, k % 3), due[k]);
        }
    }

    /** So many plans of different pairs. */
    private static String plans(int many) {
        StringBuilder s = new StringBuilder(FIVE_MEN + SIX_DEEDS);
        for (int k = 0; k < many; k++) {
            s.append("plan ").append((char) ('a' + k / 3)).append(' ').append((char) ('a' + k % 3)).append(" 1;");
        }
        return s.toString();
    }

    @Says(promise = 3, value = "PLANS, at most 12:")
    static void atMostTwelvePlans() {
        WristGoal x = Bounds.of(plans(12));
        due("twelve", x.count(2), 12);
        due("the twelfth", x.times(3, 2), 1);
        for (int k = 0; k < 3; k++) {
            due("no fault", Bounds.tell(x, A_AND_D + "plan a d 1;"), 3);
            due("of each text anew", x.count(2), 1);
        }
        faulty(plans(12) + "plan e e 1;", 2, plans(12).length());
    }

    @Says(promise = 3, value = "which PERSON does which DEED how often a DAY 1 .. 9 (each of both once).")
    static void numbersOfPlans() {
        number(A_AND_D + "plan a d ", 1, 9, ";");
        due("9", Bounds.of(A_AND_D + "plan a d 9;").times(0, 0), 9);
        due("1", Bounds.of(A_AND_D + "plan a d 1;").times(0, 0), 1);
        WristGoal x = Bounds.of(FIVE_MEN + SIX_DEEDS + "plan a b 2;plan b a 3;plan a a 4;plan e f 5;");
        due("a b", x.times(0, 1), 2);
        due("b a", x.times(1, 0), 3);
        due("a a", x.times(0, 0), 4);
        due("e f", x.times(4, 5), 5);
        due("b b", x.times(1, 1), 0);
    }

    @Says(promise = 3, value = "bet: POT 0 .. 999, of DAYS 1 .. 14 (0, 7 without).")
    static void numbersOfBet() {
        number("bet ", 0, 999, " 1;");
        number("bet 1 ", 1, 14, ";");
        due("14", Bounds.of("man a 1 1 1;bet 1 14;").winner(1), 14);
        due("1", Bounds.of("man a 1 1 1;bet 1 1;").winner(1), 1);
        due("pot of 999", Bounds.of("man a 1 1 1;bet 999 1;").earns(0, 1, 1), 999);
        due("pot of 0", Bounds.of("man a 1 1 1;bet 0 1;").earns(0, 9, 1), 0);
        WristGoal x = Bounds.of("man a 1 1 1;");
        due("7 without", x.winner(1), 7);
        due("0 without", x.earns(0, 60, 1), 0);
        x.go(6);
        due("sum of six days", Bounds.manOf(x, 0, 5), 6);
        x.go(1);
        due("sums are 0 without a bet, too", Bounds.manOf(x, 0, 5), 0);
        Bounds.tell(x, "man a 1 1 1;bet 5 3;");
        for (int k = 0; k < 2; k++) {
            Bounds.tell(x, "man a 1 1 1;");
            due("7 without, behind a text with", x.winner(1), 7);
            due("0 without, behind a text with", x.earns(0, 60, 1), 0);
        }
    }

    @Says(promise = 3, value = "pay: PENCE 0 .. 99, from STEPS 0 .. 999 on (0, 0 without).")
    static void numbersOfPay() {
        number("pay ", 0, 99, " 1;");
        number("pay 1 ", 0, 999, ";");
        due("99 from 0 on", Bounds.of("man a 1 0 0;pay 99 0;").earns(0, 1, 0), 99);
        due("0 without", Bounds.of("man a 1 50 0;").earns(0, 60, 0), 0);
        WristGoal x = Bounds.of("man a 1 9 0;pay 7 999;");
        for (int k = 0; k < 10; k++) {
            x.lend(0, 99);
        }
        due("999", x.earns(0, 1, 0), 7);
        x.undo();
        x.lend(0, 98);
        due("998", x.earns(0, 1, 0), 0);
        for (int k = 0; k < 2; k++) {
            Bounds.tell(x, "man a 1 50 0;");
            due("0 without, behind a text with", x.earns(0, 60, 0), 0);
        }
    }

    @Says(promise = 3, value = "rain: of a hundred 0 .. 100 (0).")
    static void numbersOfRain() {
        number("rain ", 0, 100, ";");
        for (int rain : new int[] {0, 100}) {
            WristGoal x = Bounds.of("rain " + rain + ";seed 5;");
            x.go(99);
            due("wet of 99", x.count(5), rain == 0 ? 0 : 99);
        }
        WristGoal x = Bounds.of("rain 100;");
        for (int k = 0; k < 2; k++) {
            Bounds.tell(x, "seed 5;");
            x.go(99);
            due("without", x.count(5), 0);
        }
    }

    @Says(promise = 3, value = "seed: 0 .. 99999 (0).")
    static void numbersOfSeed() {
        number("seed ", 0, 99999, ";");
        WristGoal x = Bounds.of("rain 50;seed 99999;");
        x.go(60);
        Bounds.tell(x, "rain 50;");
        Bounds.tell(x, "rain 50;");
        WristGoal y = Bounds.of("rain 50;seed 0;");
        for (int k = 0; k < 60; k++) {
            x.go(1);
            y.go(1);
            due("0 without", x.count(5), y.count(5));
        }
    }

    @Says(promise = 3, value = "All numbered as they come; PEOPLE, DEEDS have names of their kind.")
    static void numberedAsTheyCome() {
        WristGoal x = Bounds.of("deed x 1 1 1;man y 1 1 1;deed y 2 2 2;rain 1;man x 2 2 2;plan x x 5;");
        due("man y", x.named(0, Bounds.letters("y")), 0);
        due("man x", x.named(0, Bounds.letters("x")), 1);
        due("deed x", x.named(1, Bounds.letters("x")), 0);
        due("deed y", x.named(1, Bounds.letters("y")), 1);
        due("man x does deed x", x.times(1, 0), 5);
        due("goal of x", Bounds.manOf(x, 1, 0), 2);
        due("minutes of y", x.deed(1, 2), 2);
    }

    @Says(promise = 4, value = "FAULTS, the first along the text (of one place the least), with its place:")
    static void theFirstFault() {
        faulty("man a 100 1 1;#", 2, 6);
        faulty("man a 1 1 1;man a 100 1 1;", 3, 16);
        faulty("plan x y 99;", 4, 5);
        faulty("rain 101 #;", 2, 5);
        faulty("rain 1;rain 101;", 3, 7);
        faulty("law fair 10000 #;", 2, 9);
        faulty("plan abcdefg d 1;", 1, 5);
        faulty("plan day d 1;", 1, 5);
        faulty("man a 1 1 1 100;", 1, 12);
        faulty("bet 1 1 bet 1 1;", 1, 8);
        faulty("man a 1 1 1;man b a 1 1;", 1, 18);
        faulty("law fair 1 10000;", 1, 11);
        faulty("law fair ((((((((1(2", 1, 18);
        faulty("law push 1;law push", 3, 15);
        String most = "law push 1" + "+1".repeat(31) + ";law fair 1";
        faulty(most + " 1", 1, most.length() + 1);
        faulty(FIVE_MEN.substring(0, FIVE_MEN.length() - 1) + " man f", 1, FIVE_MEN.length());
    }

    @Says(promise = 4, value = "1 a TOKEN that is none (a word of more than 6 letters that is none of the language, "
        + "too)")
    static void tokensThatAreNone() {
        for (String none : new String[] {"#", "\"", "!", ",", ".", ":", "[", "^", "_", "~", "\t", "\r", "\0", "A", "Z",
            "abcdefg", "mannnnn", "behindd", "" + (char) 127, "" + (char) 128, "" + (char) 255}) {
            faulty(none, 1, 0);
            faulty("rain 1;" + none, 1, 7);
            faulty("man " + none + " 1 1 1;", 1, 4);
            faulty("rain " + none + ";", 1, 5);
            faulty("rain 1 " + none + ";", 1, 7);
            faulty("law fair 1+" + none + ";", 1, 11);
            faulty("law fair 1 " + none + ";", 1, 11);
        }
    }

    @Says(promise = 4, value = "or can't stand there (the length, if more must come).")
    static void moreMustCome() {
        String whole = "man a 1 1 1;";
        for (int n = 1; n < whole.length(); n++) {
            WristGoal x = new WristGoal();
            Bounds.feedAll(x, whole);
            due("cut behind " + n, x.text(n), -1);
            due("fault", x.fault(0), 1);
            due("the length, though the tape has more", x.fault(1), n < 3 ? 0 : n);
        }
        String digits = "bet 123 14;law fair 9999<=9999;";
        for (int n : new int[] {5, 6, 7, 9, 10, 21, 22, 23, 24, 26, 27, 28, 29, 30}) {
            WristGoal x = new WristGoal();
            Bounds.feedAll(x, digits);
            due("cut behind " + n, x.text(n), -1);
            due("fault", x.fault(0), 1);
            due("the length, though the tape has more", x.fault(1), n);
        }
        faulty("man a 1 1 1 \n ", 1, 14);
        faulty("law", 1, 3);
        faulty("law push   ", 1, 11);
        faulty("plan", 1, 4);
        faulty(A_AND_D + "plan a", 1, 31);
        faulty(A_AND_D + "plan a d", 1, 33);
        faulty("law push ((1)", 1, 13);
        faulty("+", 1, 0);
        faulty("law push 1 1", 1, 11);
    }

    @Says(promise = 4, value = "2 too much (at it): a number beyond what is said,")
    static void numbersTooMuch() {
        faulty("\n man  a  1  1  100 ;", 2, 16);
        faulty("man a 00100 1 1;", 2, 6);
        faulty(A_AND_D + "plan a d 0;", 2, 34);
        faulty(A_AND_D + "plan a d 10;", 2, 34);
        faulty("bet 1 00;", 2, 6);
        faulty("law fair (1+10000);", 2, 12);
        faulty("law fair 1<010000;", 2, 11);
    }

    @Says(promise = 4, value = "a sixth man and so on (at the word of the LINE),")
    static void linesTooMuch() {
        faulty(FIVE_MEN + "\n man", 2, FIVE_MEN.length() + 2);
        faulty(FIVE_MEN + "man a 100", 2, FIVE_MEN.length());
        faulty(SIX_DEEDS + " deed", 2, SIX_DEEDS.length() + 1);
        faulty(SIX_DEEDS + "deed a 21", 2, SIX_DEEDS.length());
        faulty(plans(12) + " plan", 2, plans(12).length() + 1);
        faulty(plans(12) + "plan a a 1;", 2, plans(12).length());
        faulty(plans(12) + "plan x y 0;", 2, plans(12).length());
    }

    @Says(promise = 4, value = "a ninth '(' open,")
    static void atMostEightOpen() {
        due("eight", Bounds.value("((((((((5))))))))"), 5);
        due("eight and eight", Bounds.value("((((((((5))))))))+((((((((6))))))))"), 11);
        due("sixteen, never nine at once", Bounds.value("(((((((5+(1))+(1))+(1))+(1))+(1))+(1))+(1))+(1)"), 13);
        good("law push ((((((((5))))))));law fair ((((((((5))))))));");
        faulty("law push (((((((((5)))))))));", 2, 17);
        faulty("law push (((((((((", 2, 17);
        faulty("law push 1;law fair 2*((((((((3)+((4", 2, 34);
    }

    @Says(promise = 4, value = "a 65th KNOT of all E (N, NAMES, signs, not, and, or: one each).")
    static void atMost64Knots() {
        String most = "law push 1" + "+1".repeat(31);
        due("63", Bounds.of(most + ";").count(3), 63);
        due("64", Bounds.of(most + ";law fair (((day)));").count(3), 64);
        due("63 and not", Bounds.of(most.replace("push ", "push not ") + ";").count(3), 64);
        String full = most + ";law fair 1";
        int end = full.length();
        for (String sign : new String[] {"+", "-", "*", "/", "<", "<=", "=", "<>", ">=", ">", "and", "or"}) {
            faulty(full + " " + sign, 2, end + 1);
        }
        faulty(full + ";law habit 7", 2, end + 11);
        faulty(full + ";law habit goal", 2, end + 11);
        faulty(full + ";law habit not", 2, end + 11);
        faulty(full + ";law habit ((7", 2, end + 13);
        faulty(full + ";law habit ;", 1, end + 11);
        faulty(most + "+1", 2, most.length() + 1);
        faulty(most + " and 1", 2, most.length() + 5);
        WristGoal x = new WristGoal();
        for (int k = 0; k < 4; k++) {
            Bounds.tell(x, "man a 1 1 1;" + most + ";law fair 7;");
            due("64 of each text anew: push", x.law(0, 0), 32);
            due("64 of each text anew: fair", x.law(2, 0), 7);
        }
        due("65", Bounds.tell(x, full + "+1;"), -1);
        due("64 behind a text of 65", Bounds.tell(x, full + ";"), 2);
        due("64", x.count(3), 64);
    }

    @Says(promise = 4, value = "3 told already: a name of its kind (at W),")
    static void namesToldAlready() {
        faulty("man a 1 1 1;man a 2 2 2;", 3, 16);
        faulty("man a 1 1 1;man b 1 1 1;man c 1 1 1;man d 1 1 1;man a", 3, 52);
        faulty("deed abcdef 1 1 1;deed abcdef", 3, 23);
        good("man a 1 1 1;man aa 1 1 1;man b 1 1 1;deed a 1 1 1;deed aa 1 1 1;");
        WristGoal x = Bounds.of("man a 1 1 1;deed d 1 1 1;");
        due("told by a text ahead isn't told already", Bounds.tell(x, "man a 1 1 1;deed d 1 1 1;"), 2);
        due("told by a faulty text isn't told already", Bounds.tell(x, "man b 1 1 1;deed c 1 1 1;#"), -1);
        due("told", Bounds.tell(x, "man b 1 1 1;deed c 1 1 1;"), 2);
    }

    @Says(promise = 4, value = "a PLAN of the same two (at the second W),")
    static void plansToldAlready() {
        String ahead = A_AND_D + "man b 1 1 1;deed e 1 1 1;plan a d 1;";
        good(ahead + "plan a e 1;plan b d 1;plan b e 1;");
        faulty(ahead + "plan a d 1;", 3, ahead.length() + 7);
        faulty(ahead + "plan a e 1;plan b d 1;plan a e", 3, ahead.length() + 29);
        WristGoal x = Bounds.of(ahead);
        due("again by another text", Bounds.tell(x, ahead), 5);
        due("again behind a faulty text", Bounds.tell(x, ahead + "#"), -1);
        due("told", Bounds.tell(x, ahead), 5);
    }

    @Says(promise = 4, value = "bet, pay, rain, seed (at the word),")
    static void linesToldAlready() {
        String[] lines = {"bet 1 1;", "pay 1 1;", "rain 1;", "seed 1;"};
        for (String line : lines) {
            String word = line.substring(0, line.indexOf(' '));
            faulty(line + line, 3, line.length());
            faulty(line + "law fair 1;" + word, 3, line.length() + 11);
            good(line + (line.equals(lines[0]) ? "" : lines[0]) + (line.equals(lines[3]) ? "" : lines[3]));
        }
        faulty("bet 0 1;bet 0 1;", 3, 8);
        faulty("pay 0 0;pay 0 0;", 3, 8);
        faulty("rain 0;rain 0;", 3, 7);
        faulty("seed 0;seed 0;", 3, 7);
        WristGoal x = Bounds.of("bet 1 1;pay 1 1;rain 1;seed 1;");
        due("again by another text", Bounds.tell(x, "bet 1 1;pay 1 1;rain 1;seed 1;"), 4);
        due("told twice", Bounds.tell(x, "bet 1 1;pay 1 1;rain 1;seed 1;rain 1;"), -1);
        due("again behind a faulty text", Bounds.tell(x, "bet 1 1;pay 1 1;rain 1;seed 1;"), 4);
    }

    @Says(promise = 4, value = "a law of its RULE (at RULE).")
    static void lawsToldAlready() {
        faulty("law push 1;law push 2;", 3, 15);
        faulty("law habit 1;law push 2;law habit", 3, 27);
        faulty("law fair 1;law push 2;law habit 3;law fair", 3, 38);
        WristGoal x = Bounds.of("law push 1;law habit 1;law fair 1;");
        due("again by another text", Bounds.tell(x, "law push 1;law habit 1;law fair 1;"), 3);
        due("twice", Bounds.tell(x, "law push 1;law habit 1;law fair 1;law fair 1;"), -1);
        due("again behind a faulty text", Bounds.tell(x, "law push 1;law habit 1;law fair 1;"), 3);
    }

    @Says(promise = 4, value = "4 a PERSON, a DEED that isn't told ahead (at W).")
    static void notToldAhead() {
        faulty("plan a d 1;", 4, 5);
        faulty("plan a", 4, 5);
        faulty("man a 1 1 1;plan a d 1;", 4, 19);
        faulty("deed d 1 1 1;plan a d 1;", 4, 18);
        faulty("plan a d 1;" + A_AND_D, 4, 5);
        faulty("man a 1 1 1;plan a d 1;deed d 1 1 1;", 4, 19);
        faulty(A_AND_D + "plan d a 1;", 4, 30);
        faulty(A_AND_D + "plan a a 1;", 4, 32);
        faulty(A_AND_D + "plan aa d 1;", 4, 30);
        WristGoal x = Bounds.of(A_AND_D);
        due("told by another text alone", Bounds.tell(x, "plan a d 1;"), -1);
        due("not told", x.fault(0), 4);
    }

    @Says(promise = 5, value = "The number of a PERSON (what 0), DEED (1) by its letters, 5 bits each (a is 1; the "
        + "first one highest of six, 0 behind the last one);")
    static void lettersOfNames() {
        WristGoal x = Bounds.of("man a 1 1 1;man z 1 1 1;man abcdef 1 1 1;deed zzzzzz 1 1 1;deed a 1 1 1;");
        due("a", x.named(0, 1 << 25), 0);
        due("z", x.named(0, 26 << 25), 1);
        due("abcdef", x.named(0, 1 << 25 | 2 << 20 | 3 << 15 | 4 << 10 | 5 << 5 | 6), 2);
        due("zzzzzz", x.named(1, 26 << 25 | 26 << 20 | 26 << 15 | 26 << 10 | 26 << 5 | 26), 0);
        due("deed a", x.named(1, 1 << 25), 1);
    }

    @Says(promise = 5, value = "NONE: there is none such.")
    static void noSuchName() {
        Bounds.refusedOutside("what", 0, 1, -1, (x, what) -> x.named(what, Bounds.letters("al")));
        for (int letters : new int[] {0, 1, -1, Bounds.MIN, Bounds.MAX, Bounds.letters("a"), Bounds.letters("ala"),
            Bounds.letters("al") | 1 << 30, Bounds.letters("al") | Bounds.MIN, Bounds.letters("d"),
            Bounds.letters("man")}) {
            Bounds.refused("person " + letters, -1, x -> x.named(0, letters));
        }
        Bounds.refused("a person's name", -1, x -> x.named(1, Bounds.letters("al")));
        WristGoal x = Bounds.of(FIVE_MEN + SIX_DEEDS);
        Bounds.tell(x, "man b 1 1 1;deed b 1 1 1;");
        due("a man of the text ahead", x.named(0, Bounds.letters("e")), -1);
        due("a deed of the text ahead", x.named(1, Bounds.letters("f")), -1);
        due("of this text", x.named(0, Bounds.letters("b")) + x.named(1, Bounds.letters("b")), 0);
    }
}

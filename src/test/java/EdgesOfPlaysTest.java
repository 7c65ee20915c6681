/** The boundary cases that 'Plays' and promises 13 to 16 name; each sentence stands beside its test. */
public final class EdgesOfPlaysTest {
    private static final int INVALID = Edges.INVALID;
    private static final int FULL = Edges.FULL;
    private static final int NONE = Edges.NONE;
    private static final String DIGITS = "0123456789";
    private static final String LETTERS = "fmtudl";
    private static final int RUN = -1;
    private static final Check check = new Check();
    private static final Edges edges = new Edges(check);

    public static void main(String[] args) {
        atMost100Characters();
        emptyPlays();
        oneToThreeDigits();
        noLeadingZero();
        minusWhereAPlaceIsTold();
        nothingElse();
        nothingElseInsideOfActs();
        oneToNineTimes();
        onceIfThereIsNone();
        fourDeep();
        numbersOfLetters();
        lettersAreTheirCalls();
        readWholly();
        aDigitTooMany();
        nestedTooDeep();
        repetitionsAtTheirFirstDigit();
        aDigitTooManyInRepetitions();
        wrongNumberOfNumbers();
        aCallReturnsAnErrorCode();
        placeOfACharacter();
        placeOfTheEnd();
        placeOfTheLetter();
        depths();
        depthBehindAFaultAtOnce();
        nothingStays();
        moreThan200Acts();
        moreThan200ActsWereNoneRefused();
        p13Character();
        p13Returns();
        p14Returns();
        p15Run();
        p15Returns();
        p16What();
        p16Returns();
        check.end();
    }

    /** [Plays] A text of at most 100 characters can be run as a play: */
    private static void atMost100Characters() {
        edges.runs("f;".repeat(50), 50);
        PuppetTurns stage = Edges.crowd(1);
        Check.text(stage, "u0;".repeat(33) + "f");
        check.due("length", stage.count(10), 100);
        check.due("the 101st character is refused", stage.append(';'), FULL);
        check.due("without it the text ends too early", stage.run(), -1100);
        edges.runs("9(f;)".repeat(20), 180);
        edges.runs("()".repeat(50), 0);
    }

    /** [Plays] play = { act } */
    private static void emptyPlays() {
        edges.runs("", 0);
        edges.runs("()", 0);
        edges.runs("9()", 0);
        edges.runs("(((())))", 0);
        edges.runs("9(9(9(9())))9()", 0);
        edges.runs("9(9(9(9()()9())))f;", 1);
        edges.runs("2(()f;3())", 2);
        edges.runs("9(9(9(" + "9()".repeat(29) + ")))f;", 1);
        edges.runs("f;9(9(9(" + "9()".repeat(28) + "())))f;", 2);
    }

    /** [Plays] A number is 1 to 3 digits, */
    private static void oneToThreeDigits() {
        edges.unreadable("l;", 1, 1);
        edges.runs("l8;", 1);
        edges.fails(Edges.crowd(3), "l10;", 2, 0, 1, 0, INVALID);
        edges.fails(Edges.crowd(3), "l100;", 2, 0, 1, 0, INVALID);
        edges.fails(Edges.crowd(3), "l999;", 2, 0, 1, 0, INVALID);
        edges.unreadable("l1000;", 4, 1);
        edges.unreadable("m0,0,;", 5, 1);
        edges.unreadable("m0,,0;", 3, 1);
        edges.unreadable("m,0,0;", 1, 1);
        edges.unreadable("m0,-,0;", 4, 1);
        edges.runs("m0,63,47;", 1);
        edges.fails(Edges.crowd(3), "m0,-999,-999;", 2, 0, 1, 0, INVALID);
        edges.unreadable("m0,-1000,0;", 7, 1);
        edges.unreadable("m0,0,-1000;", 9, 1);
    }

    /** [Plays] the first of several not 0; */
    private static void noLeadingZero() {
        edges.runs("m0,0,0;", 1);
        edges.unreadable("m0,00,0;", 4, 1);
        edges.unreadable("m0,0,08;", 6, 1);
        edges.unreadable("m00,0,0;", 2, 1);
        edges.unreadable("m0,-01,0;", 5, 1);
        edges.unreadable("u01;", 2, 1);
        edges.unreadable("l008;", 2, 1);
        edges.runs("m0,10,40;", 1);
        edges.fails(Edges.crowd(3), "m0,100,0;", 2, 0, 1, 0, INVALID);
    }

    /** [Plays] it may have "-" in front where a place is told. */
    private static void minusWhereAPlaceIsTold() {
        PuppetTurns stage = Edges.crowd(3);
        check.due("both", Check.run(stage, "m2,-15,-14;"), 1);
        check.due("x", stage.puppet(2, 0), -15);
        check.due("y", stage.puppet(2, 1), -14);
        check.due("one of both", Check.run(stage, "m2,15,-1;m1,-1,15;"), 2);
        check.due("x", stage.puppet(2, 0), 15);
        check.due("y", stage.puppet(2, 1), -1);
        check.due("the 0 too", Check.run(stage, "m2,-0,-0;"), 1);
        check.due("x", stage.puppet(2, 0), 0);
        check.due("y", stage.puppet(2, 1), 0);
        edges.unreadable("m-0,0,0;", 1, 1);
        edges.unreadable("m0,--1,0;", 4, 1);
        edges.unreadable("m0,1-,0;", 4, 1);
        edges.unreadable("t-0,1;", 1, 1);
        edges.unreadable("t0,-1;", 3, 1);
        edges.unreadable("u-0;", 1, 1);
        edges.unreadable("d-0;", 1, 1);
        edges.unreadable("l-1;", 1, 1);
        edges.unreadable("f-;", 1, 1);
        edges.unreadable("-1(f;)", 0, 1);
    }

    /** [Plays] Nothing else may stand in a text. */
    private static void nothingElse() {
        for (int c = 1; c <= 255; c++) {
            boolean starts = isOneOf(LETTERS, c) || c == '(' || isOneOf(DIGITS, c) && c != '0';
            check.due("alone: " + c, place("", c), starts ? 1 : 0);
            check.due("behind f;: " + c, place("f;", c), starts ? 3 : 2);
            check.due("behind (: " + c, place("(", c), c == ')' ? RUN : starts ? 2 : 1);
            check.due("behind (): " + c, place("()", c), starts ? 3 : 2);
            check.due("behind 9: " + c, place("9", c), c == '(' ? 2 : isOneOf(DIGITS, c) ? 0 : 1);
            check.due("behind f;9: " + c, place("f;9", c), c == '(' ? 4 : isOneOf(DIGITS, c) ? 2 : 3);
        }
    }

    /** [Plays] Nothing else may stand in a text. */
    private static void nothingElseInsideOfActs() {
        for (int c = 1; c <= 255; c++) {
            boolean digit = isOneOf(DIGITS, c);
            check.due("behind f: " + c, place("f", c), c == ';' ? RUN : 1);
            check.due("behind l: " + c, place("l", c), digit ? 2 : 1);
            check.due("behind l8: " + c, place("l8", c), c == ';' ? RUN : digit ? 3 : 2);
            check.due("behind u0: " + c, place("u0", c), c == ';' ? RUN : 2);
            check.due("behind d123: " + c, place("d123", c), c == ';' ? 0 : 4);
            check.due("behind t1: " + c, place("t1", c), c == ',' || digit ? 3 : 2);
            check.due("behind m0,: " + c, place("m0,", c), c == '-' || digit ? 4 : 3);
            check.due("behind m0,-: " + c, place("m0,-", c), digit ? 5 : 4);
            check.due("behind m0,-1,2: " + c, place("m0,-1,2", c), c == ';' ? RUN : digit ? 8 : 7);
        }
    }

    private static boolean isOneOf(String characters, int c) {
        return characters.indexOf(c) >= 0;
    }

    /** Where a text fails that ends with a character, on a stage of its own, or RUN. */
    private static int place(String text, int last) {
        PuppetTurns stage = Edges.crowd(1);
        Check.text(stage, text);
        stage.append(last);
        int answer = stage.run();
        return answer < 0 ? -1000 - answer : RUN;
    }

    /** [Plays] A group in brackets is run as often as the number in front of it says (1 to 9; */
    private static void oneToNineTimes() {
        for (int times = 1; times <= 9; times++) {
            PuppetTurns stage = new PuppetTurns();
            check.due(times + " times", Check.run(stage, times + "(f;)"), times);
            check.due("frames", stage.count(5), times);
            check.due(times + " times 9", Check.run(stage, times + "(9(f;)f;)"), 10 * times);
            check.due("frames", stage.count(5), 11 * times);
        }
        edges.unreadable("0(f;)", 0, 1);
        edges.unreadable("10(f;)", 0, 1);
        edges.unreadable("f;0(f;)", 2, 1);
        edges.unreadable("f;99(f;)", 2, 1);
    }

    /** [Plays] once if there is none); */
    private static void onceIfThereIsNone() {
        edges.runs("(f;)", 1);
        edges.runs("(f;u0;)", 2);
        edges.runs("3((f;))", 3);
        edges.runs("2(f;)(f;)", 3);
        edges.runs("((((f;))))", 1);
    }

    /** [Plays] groups are nested at most 4 deep. */
    private static void fourDeep() {
        edges.runs("2(2(2(2(f;))))", 16);
        edges.runs("2(2(2(2(f;)2(f;))))", 32);
        edges.runs("((((f;)(f;))(f;))(f;))", 4);
        edges.unreadable("(((((f;)))))", 4, 5);
        edges.unreadable("((((f;(f;)))))", 6, 5);
        edges.unreadable("(((())(((f;)))))", 8, 5);
        edges.unreadable("2(2(2(2(2(f;)))))", 9, 5);
        edges.unreadable("()()()((((f;(", 12, 5);
    }

    /** [Plays] The letters are: "f" frame(), with no numbers; */
    private static void numbersOfLetters() {
        int[] due = {0, 3, 2, 1, 1, 1};
        for (int letter = 0; letter < LETTERS.length(); letter++) {
            for (int numbers = 0; numbers <= 4; numbers++) {
                String text = LETTERS.charAt(letter) + "1,1,1,1".substring(0, Math.max(2 * numbers - 1, 0)) + ";";
                if (numbers == due[letter]) {
                    edges.runs(text, 1);
                } else if (numbers < due[letter]) {
                    edges.unreadable(text, text.length() - 1, 1);
                } else {
                    edges.unreadable(text, due[letter] == 0 ? 1 : 2 * due[letter], 1);
                }
            }
        }
    }

    /**
     * [Plays] "m" puppet, x, y (move); "t" puppet, flips (turn); "u" puppet (lift); "d" puppet (lower); "l" limit
     * (setLimit).
     */
    private static void lettersAreTheirCalls() {
        PuppetTurns stage = Edges.crowd(3);
        check.due("all of them", Check.run(stage, "m1,-15,47;m2,63,-15;t0,3;t1,1;u2;d0;l1;"), 7);
        int[][] due = {{0, 0, 0, 3}, {1, -15, 47, 1}, {2, 63, -15, 0}};
        for (int[] one : due) {
            check.due("x of " + one[0], stage.puppet(one[0], 0), one[1]);
            check.due("y of " + one[0], stage.puppet(one[0], 1), one[2]);
            check.due("flips of " + one[0], stage.puppet(one[0], 5), one[3]);
        }
        edges.order("lifted and lowered", stage, 2, 1, 0);
        check.due("limit", stage.count(2), 1);
        String[] refused = {"m3,0,0;", "m0,64,0;", "m0,-16,0;", "m0,0,48;", "m0,0,-16;", "t3,0;", "t0,4;", "u3;", "d3;",
            "l0;", "l9;"};
        for (String text : refused) {
            edges.fails(Edges.crowd(3), text, 2, 0, 1, 0, INVALID);
        }
        String[] taken = {"m2,0,0;", "m0,63,0;", "m0,-15,0;", "m0,0,47;", "m0,0,-15;", "t2,0;", "t0,3;", "u2;", "d2;",
            "l1;", "l8;"};
        for (String text : taken) {
            edges.runs(text, 1);
        }
    }

    /** [Plays] The text is read wholly before any of it is run. */
    private static void readWholly() {
        edges.unreadable("f;f;f;x", 6, 1);
        edges.unreadable("l9;u3;x", 6, 1);
        edges.unreadable("9(9(9(f;)))f", 12, 1);
        edges.unreadable("l9;9(9(9(f;)))0", 14, 1);
        PuppetTurns stage = Edges.crowd(2);
        stage.setLimit(3);
        Check.run(stage, "l5;m0,9,9;f;u1;f;;");
        check.due("limit", stage.count(2), 3);
        check.due("x", stage.puppet(0, 0), 0);
        check.due("frames", stage.count(5), 0);
        edges.order("nothing is run", stage, 0, 1);
    }

    /** [Plays] A failure is of the kind 1 if a character is not allowed where it stands (also a digit too many, */
    private static void aDigitTooMany() {
        edges.unreadable("u1234;", 4, 1);
        edges.unreadable("d0000;", 2, 1);
        edges.unreadable("t1,1000;", 6, 1);
        edges.unreadable("t1000,1;", 4, 1);
        edges.unreadable("(m1,-1234,5;)", 8, 2);
        edges.unreadable("m1,2,3456;", 8, 1);
        edges.unreadable("l12345", 4, 1);
        edges.unreadable("l1234", 4, 1);
        edges.unreadable("l123", 4, 1);
        edges.unreadable("l123x", 4, 1);
    }

    /** [Plays] a group nested too deep at its "(", */
    private static void nestedTooDeep() {
        edges.unreadable("(((((", 4, 5);
        edges.unreadable("((((9(", 5, 5);
        edges.unreadable("((((9(x", 5, 5);
        edges.unreadable("((((f;()", 6, 5);
        edges.unreadable("(((()(", 6, 5);
        edges.unreadable("((((9", 5, 5);
        edges.unreadable("((((10(", 4, 5);
        edges.unreadable("((((0(", 4, 5);
        edges.unreadable("((((00(", 5, 5);
    }

    /**
     * [Plays] a number of repetitions that is not 1 to 9 at its first digit (as soon as it ends, also by the end of the
     * text, whatever stands behind it;
     */
    private static void repetitionsAtTheirFirstDigit() {
        String[] numbers = {"0", "10", "11", "90", "99", "100", "999"};
        String[] behind = {"", "(", "(f;)", "()", ")", ";", ",", "-", "-1", "f", "f;", "x", " ", "m1,2,3;"};
        for (String number : numbers) {
            for (String text : behind) {
                edges.unreadable(number + text, 0, 1);
                edges.unreadable("f;" + number + text, 2, 1);
                edges.unreadable("(f;3(" + number + text, 5, 3);
            }
        }
        for (int times = 1; times <= 9; times++) {
            edges.unreadable(times + "", 1, 1);
            edges.unreadable(times + "x", 1, 1);
            edges.unreadable(times + "f;", 1, 1);
            edges.unreadable(times + ")", 1, 1);
            edges.unreadable("(" + times + ")", 2, 2);
        }
    }

    /** [Plays] a digit too many in it, also one behind a 0, is at fault itself), */
    private static void aDigitTooManyInRepetitions() {
        edges.unreadable("1000(f;)", 3, 1);
        edges.unreadable("1000", 3, 1);
        edges.unreadable("9999x", 3, 1);
        edges.unreadable("12345(", 3, 1);
        edges.unreadable("f;1234(f;)", 5, 1);
        for (int digit = 0; digit <= 9; digit++) {
            edges.unreadable("0" + digit, 1, 1);
            edges.unreadable("0" + digit + "(f;)", 1, 1);
            edges.unreadable("(0" + digit + "x", 2, 2);
            edges.unreadable("100" + digit, 3, 1);
        }
        edges.unreadable("000", 1, 1);
        edges.unreadable("0100(", 1, 1);
    }

    /** [Plays] a wrong number of numbers at the first character that is wrong by it), */
    private static void wrongNumberOfNumbers() {
        edges.unreadable("f0;", 1, 1);
        edges.unreadable("f,;", 1, 1);
        edges.unreadable("u;", 1, 1);
        edges.unreadable("u1,1;", 2, 1);
        edges.unreadable("u12,1;", 3, 1);
        edges.unreadable("t;", 1, 1);
        edges.unreadable("t12;", 3, 1);
        edges.unreadable("t1,2,3;", 4, 1);
        edges.unreadable("m;", 1, 1);
        edges.unreadable("m1;", 2, 1);
        edges.unreadable("m1,-2;", 5, 1);
        edges.unreadable("m1,-2,-3,4;", 8, 1);
        edges.unreadable("9(l1,1;)", 4, 2);
    }

    /** [Plays] and of the kind 2 if a call returns an error code. */
    private static void aCallReturnsAnErrorCode() {
        edges.fails(Edges.crowd(3), "u0;u3;", 2, 3, 1, 1, INVALID);
        edges.fails(new PuppetTurns(), "d0;", 2, 0, 1, 0, INVALID);
        PuppetTurns stage = Edges.ofAllFrames();
        edges.fails(stage, "l1;f;", 2, 3, 1, 1, FULL);
        check.due("the limit is undone", stage.count(2), 8);
        stage.undo();
        stage.undo();
        check.due("frames", stage.count(5), 9600);
        check.due("200 frames more", Check.run(stage, "5(5(8(f;)))"), 200);
        edges.fails(stage, "5(5(8(f;)))", 2, 6, 4, 199, FULL);
    }

    /** [Plays] Its place is the offset (from 0) of this character, */
    private static void placeOfACharacter() {
        for (int acts = 0; acts < 50; acts++) {
            edges.unreadable("f;".repeat(acts) + "x", 2 * acts, 1);
            edges.unreadable("f;".repeat(acts) + "f.", 2 * acts + 1, 1);
        }
    }

    /** [Plays] or the length of the text if it ends where something is missing, */
    private static void placeOfTheEnd() {
        String[] texts = {"f", "u", "u1", "u12", "t", "t1", "t1,", "t1,1", "m", "m0", "m0,", "m0,-", "m0,-1", "m0,-1,",
            "m0,-1,-", "m0,-1,-1", "l", "l5", "9", "f;9", "f;f"};
        for (String text : texts) {
            edges.unreadable(text, text.length(), 1);
            edges.unreadable("(" + text, text.length() + 1, 2);
            edges.unreadable("((()((" + text, text.length() + 6, 5);
        }
        edges.unreadable("(", 1, 2);
        edges.unreadable("9((f;)", 6, 2);
        edges.unreadable("f;".repeat(49) + "l8", 100, 1);
        edges.unreadable("f;".repeat(49) + "((", 100, 3);
        edges.unreadable("f;".repeat(49) + "f9", 99, 1);
        edges.unreadable("f;".repeat(49) + ";9", 98, 1);
    }

    /** [Plays] or that of the letter of the act. */
    private static void placeOfTheLetter() {
        edges.fails(Edges.crowd(3), "f;m0,0,48;", 2, 2, 1, 1, INVALID);
        edges.fails(Edges.crowd(3), "l9;", 2, 0, 1, 0, INVALID);
        edges.fails(Edges.crowd(3), "f;".repeat(48) + "l99;", 2, 96, 1, 48, INVALID);
        edges.fails(Edges.crowd(3), "9(9(3(f;)))", 3, 6, 4, 0, NONE);
        edges.fails(Edges.crowd(3), "9(9(3(m0,0,0;)))", 3, 6, 4, 0, NONE);
        edges.fails(Edges.crowd(3), "5(5(8(m0,-5,0;)))t1,1;", 3, 17, 1, 0, NONE);
    }

    /** [Plays] Its depth is the number of groups in which this place stands, and 1 more. */
    private static void depths() {
        for (int groups = 0; groups <= 4; groups++) {
            String open = "2(".repeat(groups);
            String close = ")".repeat(groups);
            edges.unreadable(open + "x", 2 * groups, groups + 1);
            edges.unreadable(open + "9", 2 * groups + 1, groups + 1);
            edges.unreadable(open + close + ")", 3 * groups, 1);
            edges.unreadable(open + close + "x", 3 * groups, 1);
            edges.fails(Edges.crowd(3), open + "l9;" + close, 2, 2 * groups, groups + 1, 0, INVALID);
            edges.fails(Edges.crowd(3), open + "f;" + close + "l9;", 2, 3 * groups + 2, 1, 1 << groups, INVALID);
            edges.fails(Edges.crowd(3), "5(5(8(f;)))" + open + "u0;" + close, 3, 11 + 2 * groups, groups + 1, 0, NONE);
        }
        edges.fails(Edges.crowd(3), "(5(5(8(f;))))(u0;)", 3, 14, 2, 0, NONE);
        edges.unreadable("(f)", 2, 2);
        edges.unreadable("(f;))", 4, 1);
        edges.unreadable("((f;)9)", 6, 2);
        edges.unreadable("((f;)", 5, 2);
    }

    /** [Plays] Its depth is the number of groups in which this place stands, and 1 more. */
    private static void depthBehindAFaultAtOnce() {
        edges.unreadable("0((((", 0, 1);
        edges.unreadable("10(((", 0, 1);
        edges.unreadable("x((((", 0, 1);
        edges.unreadable(")((((", 0, 1);
        edges.unreadable("00((((", 1, 1);
        edges.unreadable("(x)))", 1, 2);
        edges.unreadable("(0)))", 1, 2);
        edges.unreadable("(f((((", 2, 2);
    }

    /** [Plays] If a play fails, nothing that it has done stays (but the failure). */
    private static void nothingStays() {
        String did = "l5;m0,9,9;t3,1;u0;d2;9(f;)";
        String[] failures = {"u1;", "l0;", "l9;", "m0,64,0;", "t0,4;", "d4;", "x", "l", "9(9(3(f;)))", "9"};
        for (String failure : failures) {
            PuppetTurns stage = Edges.busy();
            Check.run(stage, did + failure);
            PuppetTurns same = Edges.busy();
            for (int what = 0; what < 10; what++) {
                check.due("count(" + what + ") behind " + failure, stage.count(what), same.count(what));
            }
            for (int puppet = 0; puppet < 4; puppet++) {
                for (int what = 0; what < 12; what++) {
                    check.due("puppet(" + puppet + "," + what + ") behind " + failure, stage.puppet(puppet, what),
                        same.puppet(puppet, what));
                }
            }
            check.due("but the failure", stage.failure(1) == same.failure(1) ? 1 : 0, 0);
            check.due("undo() behind " + failure, stage.undo(), same.undo());
            edges.order("undone behind " + failure, stage, 2, 0, 3);
        }
    }

    /**
     * [Plays] A play of which more than 200 acts with letters would be run, were none of them refused, fails with the
     * kind 3, at the letter of the 201st, before any of its acts is run.
     */
    private static void moreThan200Acts() {
        edges.runs("5(5(8(f;)))", 200);
        edges.runs("9(9(2(f;)))9(4(f;))f;f;", 200);
        edges.runs("5(5(8(9()f;())))9()", 200);
        edges.fails(Edges.crowd(3), "5(5(8(f;)))f;", 3, 11, 1, 0, NONE);
        edges.fails(Edges.crowd(3), "5(5(8(f;)))u0;d0;", 3, 11, 1, 0, NONE);
        edges.fails(Edges.crowd(3), "f;5(5(8(u0;)))", 3, 8, 4, 0, NONE);
        edges.fails(Edges.crowd(3), "9(9(f;f;u0;))", 3, 8, 3, 0, NONE);
        edges.fails(Edges.crowd(3), "9(9(9(9(f;))))", 3, 8, 5, 0, NONE);
        edges.fails(Edges.crowd(3), "9(9(9(9(" + "f;".repeat(44) + "))))", 3, 8 + 2 * (200 % 44), 5, 0, NONE);
        PuppetTurns stage = Edges.crowd(2);
        Check.run(stage, "l5;u1;m0,1,1;9(9(3(f;)))");
        edges.failure("behind two hundred", stage, 3, 19, 4, 0, NONE);
        check.due("limit", stage.count(2), 8);
        check.due("frames", stage.count(5), 0);
        check.due("x", stage.puppet(0, 0), 0);
        edges.order("no act is run", stage, 0, 1);
        check.due("states", stage.count(9), 2);
    }

    /** [Plays] were none of them refused, */
    private static void moreThan200ActsWereNoneRefused() {
        edges.fails(Edges.crowd(3), "l9;5(5(8(f;)))", 3, 9, 4, 0, NONE);
        edges.fails(Edges.crowd(3), "5(5(8(u3;)))f;", 3, 12, 1, 0, NONE);
        edges.fails(Edges.crowd(3), "5(5(8(u3;)))", 2, 6, 4, 0, INVALID);
        edges.fails(Edges.crowd(3), "9(9(2(f;)))9(4(f;))f;l9;", 2, 21, 1, 199, INVALID);
        PuppetTurns stage = Edges.ofAllFrames();
        stage.undo();
        edges.fails(stage, "9(9(3(f;)))", 3, 6, 4, 0, NONE);
        edges.fails(stage, "9(9(2(f;)))9(5(f;))", 3, 15, 3, 0, NONE);
        edges.fails(stage, "9(9(2(f;)))9(4(f;))f;f;", 2, 21, 1, 199, FULL);
        check.due("and 199 go", Check.run(stage, "9(9(2(f;)))9(4(f;))f;"), 199);
    }

    /** [Promise 13] `character`: character code, 1 to 255 */
    private static void p13Character() {
        edges.range("append", 1, 255, 6, 6, PuppetTurns::append);
        edges.refused("append(0)", stage -> stage.append(0));
        for (int c = 1; c <= 255; c++) {
            check.due("append(" + c + ")", new PuppetTurns().append(c), 1);
        }
    }

    /**
     * [Promise 13] Returns the new length of the text; INVALID_ARGUMENT if character is out of range; CAPACITY_EXCEEDED
     * if the text already has 100 characters.
     */
    private static void p13Returns() {
        PuppetTurns stage = new PuppetTurns();
        for (int length = 1; length <= 100; length++) {
            check.due("wrong at length " + length, stage.append(256), INVALID);
            check.due("append", stage.append(length <= 98 ? length % 2 == 1 ? 'f' : ';' : length == 99 ? '(' : ')'), length);
        }
        check.due("a 101st character", stage.append('f'), FULL);
        check.due("wrong rather than full", stage.append(0), INVALID);
        check.due("wrong rather than full", stage.append(256), INVALID);
        check.due("length", stage.count(10), 100);
        check.due("the text of before", stage.run(), 49);
        stage.undo();
        check.due("an undo takes no character away", stage.append('f'), FULL);
        check.due("length", stage.clearText(), 100);
        check.due("room again", stage.append('f'), 1);
    }

    /** [Promise 14] Returns the previous length of the text. */
    private static void p14Returns() {
        for (int length = 0; length <= 100; length++) {
            PuppetTurns stage = new PuppetTurns();
            Check.text(stage, "f;".repeat(50).substring(0, length));
            check.due("clearText() of " + length, stage.clearText(), length);
            check.due("clearText() again", stage.clearText(), 0);
            check.due("length", stage.count(10), 0);
            check.due("an empty play", stage.run(), 0);
            check.due("frames", stage.count(5), 0);
            Check.text(stage, "l5");
            check.due("nothing of before is read behind the end", stage.run(), -1002);
        }
        PuppetTurns stage = new PuppetTurns();
        Check.run(stage, "l8;)");
        for (String text : new String[] {"l8;", "l8", "l", ""}) {
            check.due("only '" + text + "' is there", Check.run(stage, text),
                text.equals("l8;") ? 1 : text.isEmpty() ? 0 : -1000 - text.length());
        }
    }

    /**
     * [Promise 15] Runs the text as a play, which stays as it is. If it does not fail, this is one action, also without
     * acts.
     */
    private static void p15Run() {
        String[] texts = {"", "()", "9(9())", "f;", "f;f;f;", "5(5(8(f;)))"};
        for (String text : texts) {
            PuppetTurns stage = Edges.crowd(1);
            stage.setRule(2, 2);
            int acts = Check.run(stage, text);
            check.due("states behind " + text, stage.count(9), 3);
            check.due("length of " + text, stage.count(10), text.length());
            check.due("frames", stage.count(5), acts);
            check.due("again", stage.run(), acts);
            check.due("frames", stage.count(5), 2 * acts);
            edges.states("behind " + text + " run twice", stage, 4);
            check.due("frames", stage.count(5), 0);
        }
        PuppetTurns stage = Edges.crowd(1);
        for (int play = 0; play < 7; play++) {
            stage.run();
        }
        edges.states("seven empty plays", stage, 5);
        check.due("the puppet that came before all of them", stage.count(0), 1);
        stage = Edges.crowd(1);
        Check.run(stage, "l5;l9;");
        Check.run(stage, "x");
        Check.run(stage, "9(9(9(f;)))");
        check.due("a failure is no action", stage.count(9), 1);
        check.due("and leaves the text", stage.count(10), 11);
    }

    /**
     * [Promise 15] Returns the number of acts with letters that were run; -1000 minus the place of the failure if it
     * fails.
     */
    private static void p15Returns() {
        edges.runs("", 0);
        edges.runs("f;", 1);
        edges.runs("9(9(f;))", 81);
        edges.runs("5(5(8(u0;)))", 200);
        check.due("place 0", Check.run(Edges.crowd(3), "x"), -1000);
        check.due("place 0 of a call", Check.run(Edges.crowd(3), "u3;"), -1000);
        check.due("place 1", Check.run(Edges.crowd(3), "f"), -1001);
        check.due("place 99", Check.run(Edges.crowd(3), "f;".repeat(49) + "f,"), -1099);
        check.due("place 100", Check.run(Edges.crowd(3), "f;".repeat(49) + "u1"), -1100);
    }

    /**
     * [Promise 16] `what`: 0 its kind, 1 its place, 2 its depth, 3 the number of acts with letters that had been run
     * before it, 4 the error code of the call (NONE for the kinds 1 and 3)
     */
    private static void p16What() {
        int[] wrong = {-1, 5, -256, 256, Integer.MIN_VALUE, Integer.MAX_VALUE};
        for (int what : wrong) {
            edges.refused("failure(" + what + ")", stage -> stage.failure(what));
        }
        edges.fails(Edges.crowd(3), "u0;(f;x", 1, 6, 2, 0, NONE);
        edges.fails(Edges.crowd(3), "u0;(f;u3;)", 2, 6, 2, 2, INVALID);
        edges.fails(Edges.crowd(3), "u3;", 2, 0, 1, 0, INVALID);
        edges.fails(Edges.ofAllFrames(), "2(l2;l3;)(f;)", 2, 10, 2, 4, FULL);
        edges.fails(Edges.crowd(3), "u0;9(9(9(f;)))", 3, 9, 4, 0, NONE);
    }

    /** [Promise 16] Returns the part; INVALID_ARGUMENT if what is out of range; NONE if there was no failure yet. */
    private static void p16Returns() {
        PuppetTurns stage = Edges.crowd(3);
        edges.failure("before any play", stage, NONE, NONE, NONE, NONE, NONE, INVALID);
        check.due("failure(-1)", stage.failure(-1), INVALID);
        Check.run(stage, "f;");
        edges.failure("behind a play that does not fail", stage, NONE, NONE, NONE, NONE, NONE, INVALID);
        edges.fails(stage, "(f;u5;)", 2, 3, 2, 1, INVALID);
        Check.run(stage, "f;");
        edges.failure("stays behind a play", stage, 2, 3, 2, 1, INVALID, INVALID);
        stage.undo();
        stage.clearText();
        edges.failure("stays behind an undo", stage, 2, 3, 2, 1, INVALID, INVALID);
        edges.fails(stage, "x", 1, 0, 1, 0, NONE);
        edges.failure("is the latest", stage, 1, 0, 1, 0, NONE, INVALID);
        check.due("a play behind it", Check.run(stage, "f;(f;)"), 2);
        edges.fails(stage, "(((f", 1, 4, 4, 0, NONE);
        edges.fails(stage, "x", 1, 0, 1, 0, NONE);
        check.due("a play behind both", Check.run(stage, "f;((((f;))))"), 2);
        edges.fails(stage, "9(9(9(f;)))", 3, 6, 4, 0, NONE);
        check.due("a play behind too many acts", Check.run(stage, "9(f;)"), 9);
        edges.failure("stays the latest", stage, 3, 6, 4, 0, NONE, INVALID);
    }
}

/** Promises 13 to 16: the text, plays and their failures. */
public final class PlaysTest {
    private static final int INVALID = PuppetTurns.INVALID_ARGUMENT;
    private static final int FULL = PuppetTurns.CAPACITY_EXCEEDED;
    private static final int NONE = PuppetTurns.NONE;
    private static final Check check = new Check();

    public static void main(String[] args) {
        promise13Append();
        promise14ClearText();
        promise15RunActs();
        promise15RunGroups();
        promise15RunIsOneAction();
        promise15FailedRunLeavesNothing();
        promise16WrongCharacters();
        promise16WrongNumbers();
        promise16WrongRepetitions();
        promise16WrongGroups();
        promise16FailedCalls();
        promise16TooManyActs();
        promise16Failure();
        check.end();
    }

    private static void promise13Append() {
        PuppetTurns stage = new PuppetTurns();
        check.due("append(0)", stage.append(0), INVALID);
        check.due("append(256)", stage.append(256), INVALID);
        check.due("append(-1)", stage.append(-1), INVALID);
        check.due("append(1)", stage.append(1), 1);
        check.due("append(255)", stage.append(255), 2);
        for (int length = 3; length <= 100; length++) {
            check.due("append", stage.append('f'), length);
        }
        check.due("append to a full text", stage.append('f'), FULL);
        check.due("wrong before full", stage.append(0), INVALID);
        check.due("length", stage.count(10), 100);
        check.due("no action", stage.count(9), 0);
        check.due("a wrong character", stage.run(), -1000);
    }

    private static void promise14ClearText() {
        PuppetTurns stage = new PuppetTurns();
        check.due("clearText() of nothing", stage.clearText(), 0);
        stage.append('f');
        stage.append(';');
        check.due("clearText()", stage.clearText(), 2);
        check.due("length", stage.count(10), 0);
        check.due("append", stage.append('f'), 1);
        check.due("no action", stage.count(9), 0);
        Check.text(stage, "f;");
        stage.clearText();
        check.due("an empty play", stage.run(), 0);
        check.due("without a frame", stage.count(5), 0);
    }

    private static void promise15RunActs() {
        PuppetTurns stage = ofThree();
        check.due("m", Check.run(stage, "m0,-15,47;m1,63,-9;m2,-0,0;"), 3);
        check.due("x of 0", stage.puppet(0, 0), -15);
        check.due("y of 0", stage.puppet(0, 1), 47);
        check.due("x of 1", stage.puppet(1, 0), 63);
        check.due("y of 1", stage.puppet(1, 1), -9);
        check.due("x of 2", stage.puppet(2, 0), 0);
        check.due("t", Check.run(stage, "t2,3;"), 1);
        check.due("flips", stage.puppet(2, 5), 3);
        check.due("u", Check.run(stage, "u2;"), 1);
        check.due("lifted", stage.puppet(2, 6), 0);
        check.due("d", Check.run(stage, "d0;"), 1);
        check.due("lowered", stage.puppet(0, 6), 2);
        check.due("l", Check.run(stage, "l3;"), 1);
        check.due("limit", stage.count(2), 3);
        check.due("f", Check.run(stage, "f;"), 1);
        check.due("frames", stage.count(5), 1);
        check.due("the text stays", stage.count(10), 2);
        check.due("f again", stage.run(), 1);
        check.due("frames", stage.count(5), 2);
    }

    private static void promise15RunGroups() {
        PuppetTurns stage = ofThree();
        check.due("once", Check.run(stage, "(f;)"), 1);
        check.due("nine times", Check.run(stage, "9(f;)"), 9);
        check.due("nested", Check.run(stage, "2(f;3(f;f;)f;)f;"), 17);
        check.due("frames", stage.count(5), 27);
        check.due("four deep", Check.run(stage, "1(2(3(4(f;))))"), 24);
        check.due("empty groups", Check.run(stage, "9(9(9(9()9())9()))()"), 0);
        check.due("many empty groups", Check.run(stage, "9(9(9(" + "9()".repeat(29) + ")))f;"), 1);
        check.due("as many groups as there is room for", Check.run(stage, "()".repeat(50)), 0);
        check.due("as many acts as there is room for", Check.run(stage, "f;".repeat(50)), 50);
        check.due("empty beside acts", Check.run(stage, "2(3()f;3())4()f;"), 3);
        check.due("one behind the other", Check.run(stage, "2(f;)3(f;)"), 5);
        check.due("two in one", Check.run(stage, "2(2(f;)3(f;))"), 10);
        check.due("in turns", Check.run(stage, "2(u0;u1;)u2;"), 5);
        check.due("the last one lifted", stage.puppet(2, 6), 0);
        check.due("the one before", stage.puppet(1, 6), 1);
        check.due("200 acts", Check.run(stage, "5(5(4(l1;l2;)))"), 200);
    }

    private static void promise15RunIsOneAction() {
        PuppetTurns stage = new PuppetTurns();
        check.due("an empty play", stage.run(), 0);
        check.due("is an action", stage.count(9), 1);
        check.due("a play of three", Check.run(stage, "l1;l2;l3;"), 3);
        check.due("is one action", stage.count(9), 2);
        check.due("undo()", stage.undo(), 1);
        check.due("all of it is undone", stage.count(2), 8);
        check.due("a play without acts", Check.run(stage, "3()"), 0);
        check.due("is one action too", stage.count(9), 2);
    }

    private static void promise15FailedRunLeavesNothing() {
        PuppetTurns stage = ofThree();
        stage.setLimit(1);
        check.due("states", stage.count(9), 4);
        fails(stage, "l5;m0,9,9;t1,3;u2;d0;f;f;l9;", 2, 25, 1, 7, INVALID);
        check.due("limit", stage.count(2), 1);
        check.due("x", stage.puppet(0, 0), 0);
        check.due("flips", stage.puppet(1, 5), 0);
        check.due("position", stage.puppet(2, 6), 2);
        check.due("frames", stage.count(5), 0);
        check.due("hidden", stage.puppet(2, 9), 0);
        check.due("states stay", stage.count(9), 4);
        check.due("length stays", stage.count(10), 28);
        fails(stage, "l5;l", 1, 4, 1, 0, NONE);
        check.due("read before it is run", stage.count(2), 1);
        check.due("nothing is recorded", stage.count(9), 4);
    }

    private static void promise16WrongCharacters() {
        PuppetTurns stage = ofThree();
        fails(stage, "x", 1, 0, 1, 0, NONE);
        fails(stage, "F;", 1, 0, 1, 0, NONE);
        fails(stage, " f;", 1, 0, 1, 0, NONE);
        fails(stage, "f ;", 1, 1, 1, 0, NONE);
        fails(stage, "-1(f;)", 1, 0, 1, 0, NONE);
        fails(stage, ";", 1, 0, 1, 0, NONE);
        fails(stage, "f;;", 1, 2, 1, 0, NONE);
        fails(stage, "f;,", 1, 2, 1, 0, NONE);
        fails(stage, "(f;x)", 1, 3, 2, 0, NONE);
        fails(stage, "f", 1, 1, 1, 0, NONE);
        fails(stage, "l1", 1, 2, 1, 0, NONE);
        fails(stage, "l", 1, 1, 1, 0, NONE);
        fails(stage, "m1,", 1, 3, 1, 0, NONE);
        fails(stage, "m1,-", 1, 4, 1, 0, NONE);
        fails(stage, "l1(", 1, 2, 1, 0, NONE);
        fails(stage, "l1)", 1, 2, 1, 0, NONE);
    }

    private static void promise16WrongNumbers() {
        PuppetTurns stage = ofThree();
        fails(stage, "f1;", 1, 1, 1, 0, NONE);
        fails(stage, "u;", 1, 1, 1, 0, NONE);
        fails(stage, "u1,2;", 1, 2, 1, 0, NONE);
        fails(stage, "d1,2;", 1, 2, 1, 0, NONE);
        fails(stage, "l1,2;", 1, 2, 1, 0, NONE);
        fails(stage, "t1;", 1, 2, 1, 0, NONE);
        fails(stage, "t1,2,3;", 1, 4, 1, 0, NONE);
        fails(stage, "m1,2;", 1, 4, 1, 0, NONE);
        fails(stage, "m1,2,3,4;", 1, 6, 1, 0, NONE);
        fails(stage, "m1,,2;", 1, 3, 1, 0, NONE);
        fails(stage, "l1234;", 1, 4, 1, 0, NONE);
        fails(stage, "l00;", 1, 2, 1, 0, NONE);
        fails(stage, "l01;", 1, 2, 1, 0, NONE);
        fails(stage, "m0,-01,0;", 1, 5, 1, 0, NONE);
        fails(stage, "m0,-1234,0;", 1, 7, 1, 0, NONE);
        fails(stage, "m0,--1,0;", 1, 4, 1, 0, NONE);
        fails(stage, "m-0,0,0;", 1, 1, 1, 0, NONE);
        fails(stage, "t0,-1;", 1, 3, 1, 0, NONE);
        fails(stage, "l-1;", 1, 1, 1, 0, NONE);
        fails(stage, "u-1;", 1, 1, 1, 0, NONE);
    }

    private static void promise16WrongRepetitions() {
        PuppetTurns stage = ofThree();
        fails(stage, "0(f;)", 1, 0, 1, 0, NONE);
        fails(stage, "10(f;)", 1, 0, 1, 0, NONE);
        fails(stage, "999(f;)", 1, 0, 1, 0, NONE);
        fails(stage, "1000(f;)", 1, 3, 1, 0, NONE);
        fails(stage, "01(f;)", 1, 1, 1, 0, NONE);
        fails(stage, "00", 1, 1, 1, 0, NONE);
        fails(stage, "12x", 1, 0, 1, 0, NONE);
        fails(stage, "0x", 1, 0, 1, 0, NONE);
        fails(stage, "5x", 1, 1, 1, 0, NONE);
        fails(stage, "f;12", 1, 2, 1, 0, NONE);
        fails(stage, "f;0", 1, 2, 1, 0, NONE);
        fails(stage, "f;5", 1, 3, 1, 0, NONE);
        fails(stage, "(12", 1, 1, 2, 0, NONE);
        fails(stage, "(3", 1, 2, 2, 0, NONE);
        fails(stage, "9f;", 1, 1, 1, 0, NONE);
        fails(stage, "1)", 1, 1, 1, 0, NONE);
    }

    private static void promise16WrongGroups() {
        PuppetTurns stage = ofThree();
        fails(stage, ")", 1, 0, 1, 0, NONE);
        fails(stage, "())", 1, 2, 1, 0, NONE);
        fails(stage, "(f;", 1, 3, 2, 0, NONE);
        fails(stage, "((f;)", 1, 5, 2, 0, NONE);
        fails(stage, "2(2(2(2(2(f;)))))", 1, 9, 5, 0, NONE);
        fails(stage, "((((12(", 1, 4, 5, 0, NONE);
        fails(stage, "((((", 1, 4, 5, 0, NONE);
        check.due("deep again behind a group", Check.run(stage, "((((f;))))((((f;))))"), 2);
    }

    private static void promise16FailedCalls() {
        PuppetTurns stage = ofThree();
        stage.leave(1);
        fails(stage, "u1;", 2, 0, 1, 0, INVALID);
        fails(stage, "d1;", 2, 0, 1, 0, INVALID);
        fails(stage, "m1,0,0;", 2, 0, 1, 0, INVALID);
        fails(stage, "t1,0;", 2, 0, 1, 0, INVALID);
        fails(stage, "t0,4;", 2, 0, 1, 0, INVALID);
        fails(stage, "m0,64,0;", 2, 0, 1, 0, INVALID);
        fails(stage, "m0,-16,0;", 2, 0, 1, 0, INVALID);
        fails(stage, "m0,0,999;", 2, 0, 1, 0, INVALID);
        fails(stage, "l0;", 2, 0, 1, 0, INVALID);
        fails(stage, "l9;", 2, 0, 1, 0, INVALID);
        fails(stage, "2(f;2(f;)3((l0;)))", 2, 12, 4, 3, INVALID);
        fails(stage, "f;l0;l0;x", 1, 8, 1, 0, NONE);
    }

    private static void promise16TooManyActs() {
        PuppetTurns stage = ofThree();
        fails(stage, "5(5(8(f;)))u0;", 3, 11, 1, 0, NONE);
        fails(stage, "9(9(9(f;f;u0;)))", 3, 10, 4, 0, NONE);
        fails(stage, "l0;9(9(3(f;)))", 3, 9, 4, 0, NONE);
        fails(stage, "9(9(3(f;)))x", 1, 11, 1, 0, NONE);
        fails(stage, "8(f;d0;)3(8(8(t0,0;)))", 3, 14, 4, 0, NONE);
        check.due("nothing of it is run", stage.count(5), 0);
        fails(stage, "9(9(9(9()f;)))", 3, 9, 4, 0, NONE);
    }

    private static void promise16Failure() {
        PuppetTurns stage = ofThree();
        check.due("failure(-1)", stage.failure(-1), INVALID);
        check.due("failure(5)", stage.failure(5), INVALID);
        for (int what = 0; what < 5; what++) {
            check.due("no failure yet", stage.failure(what), NONE);
        }
        fails(stage, "(u7;)", 2, 1, 2, 0, INVALID);
        check.due("failure(5)", stage.failure(5), INVALID);
        check.due("a play that does not fail", Check.run(stage, "f;"), 1);
        check.due("the latest failure stays", stage.failure(1), 1);
        stage.clearText();
        stage.undo();
        check.due("an undo leaves it", stage.failure(4), INVALID);
    }

    private static void fails(PuppetTurns stage, String text, int kind, int place, int depth, int acts, int code) {
        check.due("run of " + text, Check.run(stage, text), -1000 - place);
        int[] due = {kind, place, depth, acts, code};
        for (int what = 0; what < due.length; what++) {
            check.due("failure(" + what + ") of " + text, stage.failure(what), due[what]);
        }
    }

    private static PuppetTurns ofThree() {
        PuppetTurns stage = new PuppetTurns();
        stage.come(0, 0, 0, 0, 1);
        stage.come(0, 0, 0, 0, 2);
        stage.come(0, 0, 0, 0, 3);
        return stage;
    }
}

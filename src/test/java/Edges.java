import java.util.function.Supplier;
import java.util.function.ToIntFunction;

/**
 * What the tests of boundary cases share: stages that are in use, and the proof that a call changed nothing.
 * No stage is asked for more than the 512 calls that the document promises.
 */
final class Edges {
    static final int INVALID = PuppetTurns.INVALID_ARGUMENT;
    static final int STATE = PuppetTurns.ILLEGAL_STATE;
    static final int FULL = PuppetTurns.CAPACITY_EXCEEDED;
    static final int NONE = PuppetTurns.NONE;

    /** A call with one number that is looked at, the others being allowed ones. */
    interface NumberCall {
        int of(PuppetTurns stage, int number);
    }

    private final Check check;

    Edges(Check check) {
        this.check = check;
    }

    /**
     * Puppets 0, 2 and 3 are there, in the order 2, 3, 0, and 1 has left; limit 1, rule 2, step 7; two frames were
     * made; the history is full; the text is "f;u9;", and it has failed.
     */
    static PuppetTurns busy() {
        PuppetTurns stage = new PuppetTurns();
        stage.setRow(1, 2, 77);
        stage.setRow(7, 7, 1);
        stage.come(3, 5, 1, 7, 4);
        stage.come(6, 9, 0, 1, 9);
        stage.come(-4, 12, 1, 2, 1);
        stage.come(60, 40, 0, 3, 2);
        stage.leave(1);
        stage.setLimit(1);
        stage.frame();
        Check.run(stage, "f;u9;");
        stage.setRule(2, 7);
        stage.frame();
        stage.turn(3, 2);
        stage.lower(3);
        stage.lower(0);
        return stage;
    }

    /** So many low puppets at the same place. */
    static PuppetTurns crowd(int puppets) {
        PuppetTurns stage = new PuppetTurns();
        for (int puppet = 0; puppet < puppets; puppet++) {
            stage.come(0, 0, 0, 0, 1);
        }
        return stage;
    }

    /** A stage without puppets on which 9999 frames were made; its history is full. */
    static PuppetTurns ofAllFrames() {
        PuppetTurns stage = new PuppetTurns();
        Check.text(stage, "5(5(8(f;)))");
        for (int play = 0; play < 49; play++) {
            stage.run();
        }
        Check.run(stage, "9(9(f;f;))9(4(f;))f;");
        stage.clearText();
        return stage;
    }

    /** The call answers so, and nothing that can be seen is other than on a stage without the call. */
    void changesNothing(String call, int due, Supplier<PuppetTurns> made, ToIntFunction<PuppetTurns> act) {
        PuppetTurns stage = made.get();
        check.due(call, act.applyAsInt(stage), due);
        sameStage(call, stage, made.get());
        PuppetTurns again = made.get();
        act.applyAsInt(again);
        sameHistory(call, again, made.get());
    }

    /** The call is refused on a stage that is in use and on a new one. */
    void refused(String call, ToIntFunction<PuppetTurns> act) {
        changesNothing(call + " on a stage in use", INVALID, Edges::busy, act);
        changesNothing(call + " on a new stage", INVALID, PuppetTurns::new, act);
    }

    /** Both bounds are taken, and what lies beyond them is refused. */
    void range(String name, int least, int most, int dueLeast, int dueMost, NumberCall call) {
        check.due(name + " of " + least, call.of(busy(), least), dueLeast);
        check.due(name + " of " + most, call.of(busy(), most), dueMost);
        int[] beyond = {least - 1, most + 1, least - 256, most + 256, Integer.MIN_VALUE, Integer.MAX_VALUE};
        for (int number : beyond) {
            refused(name + " of " + number, stage -> call.of(stage, number));
        }
    }

    /** Of the stage in use: who has left, who has not come yet, and numbers that no puppet can have. */
    void puppetsThatAreNot(String name, NumberCall call) {
        int[] numbers = {1, 4, 19, 20, 21, -1, -2, 256, -256, Integer.MIN_VALUE, Integer.MAX_VALUE};
        for (int number : numbers) {
            changesNothing(name + " of puppet " + number, INVALID, Edges::busy, stage -> call.of(stage, number));
        }
        refused(name + " of puppet 20", stage -> call.of(stage, 20));
        changesNothing(name + " without puppets", INVALID, PuppetTurns::new, stage -> call.of(stage, 0));
        PuppetTurns twenty = crowd(20);
        check.due(name + " of the twentieth", call.of(twenty, 19) != INVALID ? 1 : 0, 1);
        check.due(name + " of a twenty-first", call.of(twenty, 20), INVALID);
        twenty.undo();
    }

    /** The puppets stand in this order, from the first one. */
    void order(String when, PuppetTurns stage, int... puppets) {
        check.due(when + ": puppets", stage.count(0), puppets.length);
        for (int position = 0; position < puppets.length; position++) {
            check.due(when + ": position of " + puppets[position], stage.puppet(puppets[position], 6), position);
        }
    }

    /** How many states are kept, by undoing all of them. */
    void states(String when, PuppetTurns stage, int due) {
        check.due(when + ": states", stage.count(9), due);
        for (int left = due - 1; left >= 0; left--) {
            check.due(when + ": undo()", stage.undo(), left);
        }
        check.due(when + ": undo() of nothing", stage.undo(), STATE);
    }

    /** What run() and the five parts of the failure answer for a text. */
    void fails(PuppetTurns stage, String text, int kind, int place, int depth, int acts, int code) {
        check.due("run of " + text, Check.run(stage, text), -1000 - place);
        failure("of " + text, stage, kind, place, depth, acts, code);
    }

    void failure(String when, PuppetTurns stage, int... due) {
        for (int what = 0; what < due.length; what++) {
            check.due("failure(" + what + ") " + when, stage.failure(what), due[what]);
        }
    }

    /** A text that fails by a character, on a stage of its own. */
    void unreadable(String text, int place, int depth) {
        fails(crowd(3), text, 1, place, depth, 0, NONE);
    }

    /** A text that is run, on a stage of its own. */
    void runs(String text, int acts) {
        check.due("run of " + text, Check.run(crowd(3), text), acts);
    }

    /** Everything that can be looked at, and the rows of the pictures, by replacing them. */
    private void sameStage(String when, PuppetTurns stage, PuppetTurns other) {
        int come = other.count(1);
        for (int what = 0; what < 11; what++) {
            check.due(when + ": count(" + what + ")", stage.count(what), other.count(what));
        }
        for (int what = 0; what < 5; what++) {
            check.due(when + ": failure(" + what + ")", stage.failure(what), other.failure(what));
        }
        for (int puppet = 0; puppet <= come; puppet++) {
            for (int what = 0; what < 12; what++) {
                check.due(when + ": puppet(" + puppet + "," + what + ")", stage.puppet(puppet, what),
                    other.puppet(puppet, what));
            }
        }
        for (int y = 0; y < 48; y += 1 + come / 8) {
            for (int what = 0; what < 3; what++) {
                check.due(when + ": line(" + y + "," + what + ")", stage.line(y, what), other.line(y, what));
            }
        }
        for (int row = 0; row < 64; row++) {
            check.due(when + ": row " + row, stage.setRow(row / 8, row % 8, 0), other.setRow(row / 8, row % 8, 0));
        }
    }

    /** Each state of the history, down to none, and then the text, by running it. */
    private void sameHistory(String when, PuppetTurns stage, PuppetTurns other) {
        int left = 0;
        for (int back = 0; back < 7 && left >= 0; back++) {
            left = other.undo();
            check.due(when + ": undo() " + back, stage.undo(), left);
            for (int what = 0; what < 8; what++) {
                check.due(when + ": then count(" + what + ")", stage.count(what), other.count(what));
            }
            for (int puppet = 0; puppet < other.count(1); puppet++) {
                check.due(when + ": then position of " + puppet, stage.puppet(puppet, 6), other.puppet(puppet, 6));
            }
        }
        check.due(when + ": then run()", stage.run(), other.run());
        for (int what = 0; what < 5; what++) {
            check.due(when + ": then failure(" + what + ")", stage.failure(what), other.failure(what));
        }
        check.due(when + ": then frames", stage.count(5), other.count(5));
    }
}

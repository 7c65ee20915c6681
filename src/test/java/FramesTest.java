/** Promises 9 to 12: the limit, the rule, frames and undo. */
public final class FramesTest {
    private static final int INVALID = PuppetTurns.INVALID_ARGUMENT;
    private static final Check check = new Check();

    public static void main(String[] args) {
        promise9SetLimit();
        promise10SetRule();
        promise11FrameCounts();
        promise11RuleRotates();
        promise11RuleHiddenFirst();
        promise11MostFrames();
        promise12Undo();
        promise12UndoRestoresAll();
        promise12UndoOfEachAction();
        check.end();
    }

    private static void promise9SetLimit() {
        PuppetTurns stage = crowd(10);
        check.due("hidden at first", stage.count(6), 2);
        check.due("setLimit(1)", stage.setLimit(1), 8);
        check.due("hidden by limit 1", stage.count(6), 9);
        check.due("shown by limit 1", stage.line(3, 1), 1);
        check.due("setLimit(8)", stage.setLimit(8), 1);
        check.due("shown by limit 8", stage.line(3, 1), 8);
        check.due("setLimit(8) again", stage.setLimit(8), 8);
        stage.undo();
        check.due("setLimit(0)", stage.setLimit(0), INVALID);
        check.due("setLimit(9)", stage.setLimit(9), INVALID);
        check.due("the limit stays", stage.count(2), 8);
        check.due("wrong ones record nothing", stage.count(9), 4);
    }

    private static void promise10SetRule() {
        PuppetTurns stage = new PuppetTurns();
        check.due("setRule(1,19)", stage.setRule(1, 19), 0);
        check.due("setRule(2,1)", stage.setRule(2, 1), 1);
        check.due("rule", stage.count(3), 2);
        check.due("step", stage.count(4), 1);
        check.due("setRule(0,7)", stage.setRule(0, 7), 2);
        int[][] wrong = {{-1, 1}, {3, 1}, {0, 0}, {0, 20}, {1, -1}};
        for (int[] one : wrong) {
            check.due("setRule wrong", stage.setRule(one[0], one[1]), INVALID);
        }
        check.due("the rule stays", stage.count(3), 0);
        check.due("the step stays", stage.count(4), 7);
        check.due("wrong ones record nothing", stage.count(9), 3);
    }

    private static void promise11FrameCounts() {
        PuppetTurns stage = new PuppetTurns();
        check.due("frame() without puppets", stage.frame(), 0);
        stage.setRule(1, 19);
        check.due("frame() of rule 1 without puppets", stage.frame(), 0);
        stage.setRule(2, 1);
        check.due("frame() of rule 2 without puppets", stage.frame(), 0);
        stage = crowd(3);
        stage.setLimit(2);
        check.due("frame 1", stage.frame(), 1);
        check.due("frame 2", stage.frame(), 1);
        hidden(stage, 2, 2, 2, 2);
        hidden(stage, 1, 0, 0, 0);
        stage.lift(2);
        check.due("frame 3", stage.frame(), 1);
        hidden(stage, 2, 2, 0, 2);
        hidden(stage, 1, 1, 1, 1);
        stage.lower(2);
        check.due("frame 4", stage.frame(), 1);
        hidden(stage, 2, 3, 1, 2);
        hidden(stage, 1, 1, 0, 1);
        check.due("frames", stage.count(5), 4);
        stage.move(2, 0, 6);
        check.due("hidden on some of its lines is hidden", stage.frame(), 1);
        stage.move(2, 0, 8);
        check.due("below the others it is shown", stage.frame(), 0);
        hidden(stage, 2, 4, 0, 2);
    }

    private static void promise11RuleRotates() {
        PuppetTurns stage = crowd(5);
        stage.setRule(1, 2);
        stage.frame();
        order(stage, 2, 3, 4, 0, 1);
        stage.setRule(1, 19);
        stage.frame();
        order(stage, 1, 2, 3, 4, 0);
        stage.setRule(1, 5);
        stage.frame();
        order(stage, 1, 2, 3, 4, 0);
        stage.setRule(0, 3);
        stage.frame();
        order(stage, 1, 2, 3, 4, 0);
    }

    private static void promise11RuleHiddenFirst() {
        PuppetTurns stage = crowd(6);
        stage.setLimit(4);
        stage.setRule(2, 3);
        check.due("frame of rule 2", stage.frame(), 2);
        order(stage, 4, 5, 0, 1, 2, 3);
        stage.move(3, 0, 20);
        stage.frame();
        order(stage, 2, 4, 5, 0, 1, 3);
        stage.setLimit(8);
        check.due("nobody is hidden", stage.frame(), 0);
        order(stage, 2, 4, 5, 0, 1, 3);
    }

    private static void promise11MostFrames() {
        PuppetTurns stage = new PuppetTurns();
        Check.text(stage, "5(5(8(f;)))");
        for (int play = 0; play < 49; play++) {
            check.due("200 frames", stage.run(), 200);
        }
        Check.text(stage, "9(9(f;f;))9(4(f;))");
        check.due("198 frames", stage.run(), 198);
        check.due("frame 9999", stage.frame(), 0);
        check.due("frames", stage.count(5), 9999);
        check.due("frame 10000", stage.frame(), PuppetTurns.CAPACITY_EXCEEDED);
        check.due("records nothing", stage.count(9), 5);
        stage.come(0, 0, 0, 0, 1);
        stage.come(0, 0, 0, 0, 1);
        stage.setLimit(1);
        check.due("forecasts are not limited", stage.hiddenIn(1, 60), 60);
        check.due("a play fails by it", Check.run(stage, "d0;f;"), -1003);
        check.due("with its code", stage.failure(4), PuppetTurns.CAPACITY_EXCEEDED);
        check.due("the order is as it was", stage.puppet(0, 6), 0);
        for (int state = 0; state < 4; state++) {
            stage.undo();
        }
        check.due("a frame undone is not made", stage.frame(), 0);
        check.due("then they are full again", stage.frame(), PuppetTurns.CAPACITY_EXCEEDED);
    }

    private static void promise12Undo() {
        PuppetTurns stage = new PuppetTurns();
        check.due("undo() of nothing", stage.undo(), PuppetTurns.ILLEGAL_STATE);
        for (int limit = 1; limit <= 7; limit++) {
            stage.setLimit(limit);
        }
        check.due("only five states are kept", stage.count(9), 5);
        for (int left = 4; left >= 0; left--) {
            check.due("undo()", stage.undo(), left);
            check.due("limit", stage.count(2), left + 2);
        }
        check.due("undo() of nothing more", stage.undo(), PuppetTurns.ILLEGAL_STATE);
        check.due("limit stays", stage.count(2), 2);
        stage.setLimit(5);
        stage.setLimit(6);
        check.due("undo() after new ones", stage.undo(), 1);
        check.due("limit", stage.count(2), 5);
        check.due("undo() is no action", stage.count(9), 1);
    }

    private static void promise12UndoRestoresAll() {
        PuppetTurns stage = crowd(3);
        stage.setLimit(2);
        stage.setRule(1, 4);
        Check.text(stage, "x");
        stage.run();
        stage.frame();
        stage.leave(0);
        stage.setRow(0, 0, 3);
        stage.setRule(2, 9);
        Check.text(stage, "fx");
        stage.run();
        check.due("undo of setRule", stage.undo(), 4);
        check.due("rule", stage.count(3), 1);
        check.due("step", stage.count(4), 4);
        check.due("undo of setRow", stage.undo(), 3);
        check.due("dots of the row", stage.line(0, 2), 8);
        check.due("undo of leave", stage.undo(), 2);
        check.due("puppets", stage.count(0), 3);
        order(stage, 1, 2, 0);
        check.due("undo of frame", stage.undo(), 1);
        order(stage, 0, 1, 2);
        hidden(stage, 2, 0, 0, 0);
        check.due("frames", stage.count(5), 0);
        check.due("the failure stays", stage.failure(1), 1);
        check.due("the text stays", stage.count(10), 2);
    }

    /** Behind a setLimit, so that a state of before that would be told by the limit. */
    private static void promise12UndoOfEachAction() {
        for (int action = 0; action < 11; action++) {
            PuppetTurns stage = crowd(3);
            stage.setLimit(2);
            stage.setRule(1, 1);
            perform(stage, action);
            check.due("undo() of action " + action, stage.undo(), 4);
            int[] counts = {3, 3, 2, 1, 1, 0, 1, 64, 0, 4};
            for (int what = 0; what < counts.length; what++) {
                check.due("then count(" + what + ") behind action " + action, stage.count(what), counts[what]);
            }
            order(stage, 0, 1, 2);
            check.due("x behind action " + action, stage.puppet(0, 0), 0);
            check.due("flips behind action " + action, stage.puppet(0, 5), 0);
            check.due("hidden frames behind action " + action, stage.puppet(2, 9), 0);
        }
    }

    private static void perform(PuppetTurns stage, int action) {
        switch (action) {
            case 0:
                stage.setRow(0, 0, 0);
                break;
            case 1:
                stage.come(9, 9, 1, 1, 1);
                break;
            case 2:
                stage.leave(0);
                break;
            case 3:
                stage.move(0, 9, 9);
                break;
            case 4:
                stage.turn(0, 3);
                break;
            case 5:
                stage.lift(2);
                break;
            case 6:
                stage.lower(0);
                break;
            case 7:
                stage.setLimit(5);
                break;
            case 8:
                stage.setRule(2, 2);
                break;
            case 9:
                stage.frame();
                break;
            default:
                Check.run(stage, "f;m0,5,5;u1;t0,2;l3;d0;");
                break;
        }
    }

    private static PuppetTurns crowd(int puppets) {
        PuppetTurns stage = new PuppetTurns();
        for (int puppet = 0; puppet < puppets; puppet++) {
            stage.come(0, 0, 0, 0, 1);
        }
        return stage;
    }

    private static void hidden(PuppetTurns stage, int puppet, int frames, int onEnd, int most) {
        check.due("hidden frames of " + puppet, stage.puppet(puppet, 9), frames);
        check.due("on end of " + puppet, stage.puppet(puppet, 10), onEnd);
        check.due("most on end of " + puppet, stage.puppet(puppet, 11), most);
    }

    private static void order(PuppetTurns stage, int... puppets) {
        for (int position = 0; position < puppets.length; position++) {
            check.due("position of " + puppets[position], stage.puppet(puppets[position], 6), position);
        }
    }
}

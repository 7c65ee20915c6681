/** Promises 23 to 26: how often a puppet would be hidden, when all are shown, the best step, the worst line. */
public final class ForecastsTest {
    private static final int INVALID = PuppetTurns.INVALID_ARGUMENT;
    private static final int NONE = PuppetTurns.NONE;
    private static final Check check = new Check();

    public static void main(String[] args) {
        promise23HiddenIn();
        promise24AllShownIn();
        promise24OfTwenty();
        promise25BestStep();
        promise25IsWhatFramesGive();
        promise26WorstLine();
        changesNothing();
        check.end();
    }

    private static void promise23HiddenIn() {
        PuppetTurns stage = crowd(3);
        stage.setLimit(2);
        check.due("rule 0, last", stage.hiddenIn(2, 60), 60);
        check.due("rule 0, first", stage.hiddenIn(0, 60), 0);
        stage.setRule(1, 1);
        check.due("rule 1, 1 frame", stage.hiddenIn(2, 1), 1);
        check.due("rule 1, 3 frames", stage.hiddenIn(2, 3), 1);
        check.due("rule 1, 4 frames", stage.hiddenIn(2, 4), 2);
        check.due("rule 1, first, 1 frame", stage.hiddenIn(0, 1), 0);
        check.due("rule 1, first, 2 frames", stage.hiddenIn(0, 2), 1);
        stage.frame();
        check.due("earlier frames do not count", stage.hiddenIn(2, 2), 0);
        stage.setRule(2, 1);
        check.due("rule 2", stage.hiddenIn(0, 5), 2);
        check.due("hiddenIn(0,0)", stage.hiddenIn(0, 0), INVALID);
        check.due("hiddenIn(0,61)", stage.hiddenIn(0, 61), INVALID);
        check.due("hiddenIn(-1,1)", stage.hiddenIn(-1, 1), INVALID);
        check.due("hiddenIn(3,1)", stage.hiddenIn(3, 1), INVALID);
        stage.leave(2);
        check.due("who has left", stage.hiddenIn(2, 1), INVALID);
    }

    private static void promise24AllShownIn() {
        PuppetTurns stage = new PuppetTurns();
        check.due("without puppets", stage.allShownIn(), 0);
        stage.come(0, 0, 0, 0, 1);
        check.due("one puppet", stage.allShownIn(), 1);
        stage = crowd(5);
        check.due("all shown", stage.allShownIn(), 1);
        stage.setLimit(2);
        check.due("rule 0", stage.allShownIn(), NONE);
        stage.setRule(1, 1);
        check.due("rule 1, step 1", stage.allShownIn(), 4);
        stage.setRule(1, 2);
        check.due("rule 1, step 2", stage.allShownIn(), 3);
        stage.setRule(1, 5);
        check.due("rule 1, a step that leads back", stage.allShownIn(), NONE);
        stage.setRule(2, 1);
        check.due("rule 2", stage.allShownIn(), 3);
        stage.frame();
        stage.frame();
        check.due("earlier frames do not count", stage.allShownIn(), 3);
        stage.move(4, 0, 30);
        stage.move(3, 0, -15);
        stage.setRule(0, 1);
        stage.leave(2);
        check.due("off the stage nobody is hidden", stage.allShownIn(), 1);
    }

    /** No turns lead to more than 20 frames: a rotation comes back by then, and rule 2 has shown all of them. */
    private static void promise24OfTwenty() {
        PuppetTurns stage = crowd(20);
        stage.setLimit(1);
        stage.setRule(1, 3);
        check.due("20 by threes", stage.allShownIn(), 20);
        stage.setRule(1, 1);
        check.due("20 by ones", stage.allShownIn(), 20);
        stage.setRule(1, 2);
        check.due("20 by twos", stage.allShownIn(), NONE);
        stage.setRule(2, 1);
        check.due("20 by rule 2", stage.allShownIn(), 20);
    }

    private static void promise25BestStep() {
        PuppetTurns stage = new PuppetTurns();
        check.due("bestStep(0) without puppets", stage.bestStep(0), 1);
        check.due("bestStep(1) without puppets", stage.bestStep(1), 0);
        check.due("bestStep(-1)", stage.bestStep(-1), INVALID);
        check.due("bestStep(2)", stage.bestStep(2), INVALID);
        stage = crowd(2);
        stage.setLimit(1);
        check.due("two: step", stage.bestStep(0), 1);
        check.due("two: number", stage.bestStep(1), 10);
        stage = crowd(4);
        stage.setLimit(2);
        stage.setRule(0, 19);
        check.due("four: step", stage.bestStep(0), 1);
        check.due("four: number", stage.bestStep(1), 10);
        stage = crowd(6);
        stage.setLimit(2);
        check.due("six: step", stage.bestStep(0), 1);
        check.due("six: number", stage.bestStep(1), 14);
        stage = oneApart();
        check.due("one apart: step", stage.bestStep(0), 2);
        check.due("one apart: number", stage.bestStep(1), 13);
        stage.setLimit(2);
        check.due("none hidden: step", stage.bestStep(0), 1);
        check.due("none hidden: number", stage.bestStep(1), 0);
    }

    /** Puppet 2 is hidden after 0 or 1 turns, and puppet 1 after 2: by steps of 2 the latter comes more often. */
    private static PuppetTurns oneApart() {
        PuppetTurns stage = new PuppetTurns();
        stage.come(0, 20, 0, 0, 1);
        stage.come(0, 0, 0, 0, 1);
        stage.come(0, 0, 0, 0, 1);
        stage.setLimit(1);
        return stage;
    }

    private static void promise25IsWhatFramesGive() {
        int[][] places = {{0, 0, 4, 8, 8, 3}, {0, 4, 2, 9, 5, 7, 1}, {10, 10, 10, 12, 14, 30, 28, 26, 26},
            {5, 5, 5, 5, 5, 9, 9, 9, 13, 13, 17},
            {0, 16, 0, 0, 16, 16, 32, 16, 0, 16, 16, 0, 0, 32, 0, 16, 16, 16, 16}};
        for (int[] lines : places) {
            for (int limit = 1; limit <= 3; limit++) {
                int bestStep = 0;
                int best = 21;
                for (int step = 1; step <= 19; step++) {
                    int greatest = greatestByFrames(lines, limit, step);
                    if (greatest < best) {
                        best = greatest;
                        bestStep = step;
                    }
                }
                PuppetTurns stage = at(lines, limit);
                stage.setRule(2, 7);
                check.due("bestStep(0), limit " + limit, stage.bestStep(0), bestStep);
                check.due("bestStep(1), limit " + limit, stage.bestStep(1), best);
            }
        }
    }

    private static int greatestByFrames(int[] lines, int limit, int step) {
        PuppetTurns stage = at(lines, limit);
        stage.setRule(1, step);
        for (int frame = 0; frame < 20; frame++) {
            stage.frame();
        }
        int greatest = 0;
        for (int puppet = 0; puppet < lines.length; puppet++) {
            greatest = Math.max(greatest, stage.puppet(puppet, 9));
        }
        return greatest;
    }

    private static PuppetTurns at(int[] lines, int limit) {
        PuppetTurns stage = new PuppetTurns();
        for (int puppet = 0; puppet < lines.length; puppet++) {
            stage.come(0, lines[puppet], puppet % 3 == 0 ? 1 : 0, 0, 1);
        }
        stage.setLimit(limit);
        return stage;
    }

    private static void promise26WorstLine() {
        PuppetTurns stage = new PuppetTurns();
        check.due("without puppets", stage.worstLine(), NONE);
        stage.come(0, 10, 0, 0, 1);
        stage.come(0, 12, 0, 0, 1);
        check.due("nobody hidden", stage.worstLine(), NONE);
        stage.setLimit(1);
        check.due("the first of several", stage.worstLine(), 12);
        stage.come(0, 47, 0, 0, 1);
        stage.come(0, 47, 0, 0, 1);
        check.due("still the first", stage.worstLine(), 12);
        stage.come(0, 47, 1, 0, 1);
        check.due("most of them", stage.worstLine(), 47);
        stage.come(0, -15, 1, 0, 1);
        stage.come(0, -15, 1, 0, 1);
        stage.come(0, -15, 1, 0, 1);
        check.due("line 0", stage.worstLine(), 0);
        stage.setLimit(2);
        check.due("line 0 by limit 2", stage.worstLine(), 0);
        stage.setLimit(3);
        check.due("nobody hidden by limit 3", stage.worstLine(), NONE);
    }

    private static void changesNothing() {
        PuppetTurns stage = crowd(4);
        stage.setLimit(2);
        stage.setRule(1, 3);
        stage.undo();
        stage.hiddenIn(3, 60);
        stage.allShownIn();
        stage.bestStep(0);
        stage.worstLine();
        int[] counts = {4, 4, 2, 0, 1, 0, 2, 64, 0, 4, 0};
        for (int what = 0; what < counts.length; what++) {
            check.due("then count(" + what + ")", stage.count(what), counts[what]);
        }
        for (int puppet = 0; puppet < 4; puppet++) {
            check.due("then position of " + puppet, stage.puppet(puppet, 6), puppet);
            check.due("then hidden frames of " + puppet, stage.puppet(puppet, 9), 0);
        }
    }

    private static PuppetTurns crowd(int puppets) {
        PuppetTurns stage = new PuppetTurns();
        for (int puppet = 0; puppet < puppets; puppet++) {
            stage.come(0, 0, 0, 0, 1);
        }
        return stage;
    }
}

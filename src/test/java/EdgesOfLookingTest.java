/** The boundary cases that promises 17 to 26 name; each sentence stands beside its test. */
public final class EdgesOfLookingTest {
    private static final int INVALID = Edges.INVALID;
    private static final int NONE = Edges.NONE;
    private static final Check check = new Check();
    private static final Edges edges = new Edges(check);

    public static void main(String[] args) {
        p17WhatInUse();
        p17WhatWhenEmpty();
        p17WhatWhenFull();
        p17Returns();
        p18Puppet();
        p18What();
        p18WhatWhenHiddenEverywhere();
        p18Returns();
        p19Y();
        p19What();
        p19Returns();
        p20Y();
        p20Index();
        p20Returns();
        p21X();
        p21Y();
        p21Returns();
        p22WhatAtTheEdges();
        p22WhatOfSeveral();
        p22WithoutAClash();
        p22Returns();
        p23NotLimited();
        p23Puppet();
        p23Frames();
        p23Returns();
        p24Tells();
        p24Returns();
        p25Finds();
        p25SmallestStep();
        p25What();
        p25Returns();
        p26Finds();
        p26Returns();
        check.end();
    }

    /**
     * [Promise 17] `what`: 0 the number of puppets, 1 of puppets that have come, 2 the limit, 3 the rule, 4 the step, 5
     * the number of frames, 6 of puppets that are hidden on any line now, 7 of dots of the stage that are not 0, 8 the
     * hero (NONE without puppets), 9 the number of states in the history, 10 the length of the text
     */
    private static void p17WhatInUse() {
        counts("in use", Edges.busy(), 3, 4, 1, 2, 7, 2, 1, 4 * 16 + 4 * 8 + 8 * 7, 0, 5, 5);
    }

    /** [Promise 17] 8 the hero (NONE without puppets) */
    private static void p17WhatWhenEmpty() {
        counts("new", new PuppetTurns(), 0, 0, 8, 0, 1, 0, 0, 0, NONE, 0, 0);
        PuppetTurns stage = Edges.crowd(1);
        counts("of one", stage, 1, 1, 8, 0, 1, 0, 0, 64, 0, 1, 0);
        stage.leave(0);
        counts("all have left", stage, 0, 1, 8, 0, 1, 0, 0, 0, NONE, 2, 0);
    }

    /** [Promise 17] 6 of puppets that are hidden on any line now, 7 of dots of the stage that are not 0 */
    private static void p17WhatWhenFull() {
        PuppetTurns stage = new PuppetTurns();
        for (int puppet = 0; puppet < 20; puppet++) {
            stage.come(puppet % 8 * 8, puppet / 8 * 16, 1, 7, 9);
        }
        counts("side by side", stage, 20, 20, 8, 0, 1, 0, 0, 20 * 128, 0, 5, 0);
        stage.setLimit(7);
        counts("one of eight is hidden", stage, 20, 20, 7, 0, 1, 0, 2, 18 * 128, 0, 5, 0);
        stage.setLimit(1);
        counts("one by one", stage, 20, 20, 1, 0, 1, 0, 17, 3 * 128, 0, 5, 0);
        stage.leave(0);
        counts("without the hero", stage, 19, 20, 1, 0, 1, 0, 16, 3 * 128, 1, 5, 0);
        stage.move(1, -8, 0);
        counts("beside the stage it hides", stage, 19, 20, 1, 0, 1, 0, 16, 2 * 128, 1, 5, 0);
        stage.move(1, -8, 1);
        counts("but not on line 0", stage, 19, 20, 1, 0, 1, 0, 17, 2 * 128, 1, 5, 0);
    }

    private static void counts(String when, PuppetTurns stage, int... due) {
        for (int what = 0; what < due.length; what++) {
            check.due(when + ": count(" + what + ")", stage.count(what), due[what]);
        }
    }

    /** [Promise 17] Returns the number; INVALID_ARGUMENT if what is out of range. */
    private static void p17Returns() {
        int[] wrong = {-1, 11, 12, -256, 256, Integer.MIN_VALUE, Integer.MAX_VALUE};
        for (int what : wrong) {
            edges.refused("count(" + what + ")", stage -> stage.count(what));
        }
    }

    /** [Promise 18] `puppet`: a puppet */
    private static void p18Puppet() {
        edges.puppetsThatAreNot("puppet", (stage, puppet) -> stage.puppet(puppet, 0));
        edges.puppetsThatAreNot("puppet", (stage, puppet) -> stage.puppet(puppet, 11));
        PuppetTurns stage = Edges.crowd(20);
        check.due("position of 0", stage.puppet(0, 6), 0);
        check.due("position of 19", stage.puppet(19, 6), 19);
    }

    /**
     * [Promise 18] `what`: 0 its x, 1 its y, 2 1 if it is tall and 0 if low, 3 its picture, 4 its color, 5 its flips, 6
     * its position in the order, from 0, 7 the number of lines of the stage on which it stands, 8 of those on which it
     * is hidden, 9 in how many frames it was hidden, 10 for how many on end now, 11 the greatest number of these so far
     */
    private static void p18What() {
        PuppetTurns stage = Edges.busy();
        int[][] due = {{3, 5, 1, 7, 4, 0, 2, 16, 9, 0, 0, 0}, {}, {-4, 12, 1, 2, 1, 0, 0, 16, 0, 2, 2, 2},
            {60, 40, 0, 3, 2, 2, 1, 8, 0, 0, 0, 0}};
        for (int puppet = 0; puppet < due.length; puppet++) {
            for (int what = 0; what < due[puppet].length; what++) {
                check.due("puppet(" + puppet + "," + what + ")", stage.puppet(puppet, what), due[puppet][what]);
            }
        }
        stage.frame();
        stage.frame();
        stage.frame();
        int[] later = {3, 5, 1, 7, 4, 0, 0, 16, 0, 2, 1, 1};
        for (int what = 0; what < later.length; what++) {
            check.due("later: puppet(0," + what + ")", stage.puppet(0, what), later[what]);
        }
        check.due("no longer on end", stage.puppet(2, 10), 0);
        check.due("the greatest number so far", stage.puppet(2, 11), 2);
        check.due("all its frames", stage.puppet(2, 9), 3);
    }

    /** [Promise 18] 7 the number of lines of the stage on which it stands, 8 of those on which it is hidden */
    private static void p18WhatWhenHiddenEverywhere() {
        PuppetTurns stage = new PuppetTurns();
        stage.setLimit(1);
        stage.come(63, 0, 1, 0, 1);
        stage.come(-15, 0, 1, 0, 1);
        int[][] due = {{-15, 1, 1}, {-14, 2, 2}, {0, 16, 16}, {1, 16, 15}, {15, 16, 1}, {16, 16, 0}, {47, 1, 0}};
        for (int[] one : due) {
            check.due("move to y " + one[0], stage.move(1, -15, one[0]), one[1]);
            check.due("lines at y " + one[0], stage.puppet(1, 7), one[1]);
            check.due("hidden lines at y " + one[0], stage.puppet(1, 8), one[2]);
            check.due("the first one's hidden lines", stage.puppet(0, 8), 0);
        }
        stage.come(0, -15, 0, 0, 1);
        check.due("lines above the stage", stage.puppet(2, 7), 0);
        check.due("hidden lines above the stage", stage.puppet(2, 8), 0);
    }

    /** [Promise 18] Returns the property; INVALID_ARGUMENT if there is no such puppet or what is out of range. */
    private static void p18Returns() {
        int[] wrong = {-1, 12, 13, -256, 256, Integer.MIN_VALUE, Integer.MAX_VALUE};
        for (int what : wrong) {
            edges.refused("puppet(0," + what + ")", stage -> stage.puppet(0, what));
            edges.refused("puppet(20," + what + ")", stage -> stage.puppet(20, what));
        }
    }

    /** [Promise 19] `y`: 0 to 47 */
    private static void p19Y() {
        for (int what = 0; what < 3; what++) {
            int number = what;
            edges.range("line", 0, 47, 0, number == 2 ? 4 : 1, (stage, y) -> stage.line(y, number));
        }
    }

    /** [Promise 19] `what`: 0 the number of puppets that stand on it, 1 of those that are shown, 2 of dots that are not 0 */
    private static void p19What() {
        PuppetTurns stage = new PuppetTurns();
        for (int puppet = 0; puppet < 20; puppet++) {
            stage.come(4 * puppet - 15, puppet % 2 == 0 ? -15 : 47, 1, 0, 1);
        }
        line(stage, 0, 10, 8, 1 + 6 * 8);
        line(stage, 1, 0, 0, 0);
        line(stage, 46, 0, 0, 0);
        line(stage, 47, 10, 8, 5 + 6 * 8);
        stage.setLimit(1);
        line(stage, 0, 10, 1, 0);
        line(stage, 47, 10, 1, 0);
        stage.lift(2);
        line(stage, 0, 10, 1, 1);
    }

    private static void line(PuppetTurns stage, int y, int... due) {
        for (int what = 0; what < due.length; what++) {
            check.due("line(" + y + "," + what + ")", stage.line(y, what), due[what]);
        }
    }

    /** [Promise 19] Returns the property; INVALID_ARGUMENT if an argument is out of range. */
    private static void p19Returns() {
        int[] wrong = {-1, 3, -256, 256, Integer.MIN_VALUE, Integer.MAX_VALUE};
        for (int what : wrong) {
            edges.refused("line(0," + what + ")", stage -> stage.line(0, what));
            edges.refused("line(48," + what + ")", stage -> stage.line(48, what));
        }
    }

    /** [Promise 20] `y`: 0 to 47 */
    private static void p20Y() {
        edges.range("shown", 0, 47, NONE, 3, (stage, y) -> stage.shown(y, 0));
    }

    /** [Promise 20] `index`: 0 for the first one by the order, and so on */
    private static void p20Index() {
        PuppetTurns stage = Edges.crowd(20);
        stage.lift(19);
        stage.lower(0);
        int[] due = {19, 1, 2, 3, 4, 5, 6, 7, NONE, NONE};
        for (int index = 0; index < due.length; index++) {
            check.due("shown(0," + index + ")", stage.shown(0, index), due[index]);
            check.due("shown(7," + index + ")", stage.shown(7, index), due[index]);
            check.due("shown(8," + index + ")", stage.shown(8, index), NONE);
        }
    }

    /**
     * [Promise 20] Returns the puppet; INVALID_ARGUMENT if y is out of range or index is negative; NONE if not so many
     * are shown.
     */
    private static void p20Returns() {
        int[] negative = {-1, -2, -256, Integer.MIN_VALUE};
        for (int index : negative) {
            edges.refused("shown(5," + index + ")", stage -> stage.shown(5, index));
            edges.refused("shown(48," + index + ")", stage -> stage.shown(48, index));
        }
        int[] great = {1, 2, 7, 8, 9, 19, 20, 64, 256, Integer.MAX_VALUE};
        for (int index : great) {
            check.due("shown(12," + index + ") in use", Edges.busy().shown(12, index), NONE);
            check.due("shown(12," + index + ") when new", new PuppetTurns().shown(12, index), NONE);
            check.due("shown(48," + index + ") in use", Edges.busy().shown(48, index), INVALID);
        }
        check.due("shown(12,0) in use", Edges.busy().shown(12, 0), 2);
        PuppetTurns stage = Edges.crowd(9);
        for (int limit = 1; limit <= 8; limit++) {
            stage.setLimit(limit);
            check.due("the last one by limit " + limit, stage.shown(0, limit - 1), limit - 1);
            check.due("behind it", stage.shown(0, limit), NONE);
        }
    }

    /** [Promise 21] `x`: 0 to 63 */
    private static void p21X() {
        edges.range("dot of x", 0, 63, 0, 2, (stage, x) -> stage.dot(x, 40));
        check.due("left of it", Edges.busy().dot(59, 40), 0);
        check.due("its left", Edges.busy().dot(60, 40), 2);
    }

    /** [Promise 21] `y`: 0 to 47 */
    private static void p21Y() {
        edges.range("dot of y", 0, 47, 0, 2, (stage, y) -> stage.dot(63, y));
        check.due("above it", Edges.busy().dot(63, 39), 0);
        check.due("its top", Edges.busy().dot(63, 40), 2);
    }

    /** [Promise 21] Returns its color, or 0; INVALID_ARGUMENT if an argument is out of range. */
    private static void p21Returns() {
        PuppetTurns stage = new PuppetTurns();
        for (int color = 1; color <= 9; color++) {
            stage.come(7 * color - 7, 5, 0, 0, color);
        }
        stage.setLimit(8);
        for (int x = 0; x < 64; x++) {
            check.due("dot(" + x + ",5)", stage.dot(x, 5), x <= 7 ? 1 : x > 56 ? 0 : (x - 1) / 7 + 1);
            check.due("dot(" + x + ",4)", stage.dot(x, 4), 0);
            check.due("dot(" + x + ",13)", stage.dot(x, 13), 0);
        }
        stage.lift(8);
        check.due("color 9", stage.dot(63, 5), 9);
        edges.refused("dot(-1,-1)", other -> other.dot(-1, -1));
        edges.refused("dot(64,48)", other -> other.dot(64, 48));
    }

    /** [Promise 22] 1 the column and 2 the line of the first one (line by line, from left to right) */
    private static void p22WhatAtTheEdges() {
        int[][] corners = {{-7, -7, 0, 0}, {63, -7, 63, 0}, {-7, 47, 0, 47}, {63, 47, 63, 47}};
        for (int[] corner : corners) {
            PuppetTurns stage = new PuppetTurns();
            stage.come(corner[0], corner[1], 0, 0, 1);
            stage.come(corner[0], corner[1], 0, 0, 2);
            clash("in a corner", stage, 1, corner[2], corner[3], 1);
        }
        PuppetTurns stage = new PuppetTurns();
        stage.setRow(1, 0, 0b00000001);
        stage.setRow(1, 1, 0b10000000);
        stage.come(56, 40, 0, 0, 1);
        stage.come(56, 46, 0, 1, 2);
        clash("the upper one before the left one", stage, 2, 63, 46, 1);
        stage.setRow(1, 0, 0);
        clash("the left one of the line below", stage, 1, 56, 47, 1);
        stage.setRow(1, 1, 0b00011000);
        clash("from left to right", stage, 2, 59, 47, 1);
    }

    /**
     * [Promise 22] `what`: 0 the number of dots at which there is a clash, 1 the column and 2 the line of the first one
     * (line by line, from left to right), 3 the first puppet by the order, other than the hero, that clashes there (1 to
     * 3: NONE without a clash)
     */
    private static void p22WhatOfSeveral() {
        PuppetTurns stage = new PuppetTurns();
        for (int puppet = 0; puppet < 20; puppet++) {
            stage.come(10, 10, 1, puppet % 8, 1);
        }
        clash("all at one place", stage, 128, 10, 10, 1);
        stage.lift(0);
        stage.setLimit(2);
        clash("two of them", stage, 128, 10, 10, 1);
        stage.lift(19);
        clash("by the order", stage, 128, 10, 10, 19);
        stage.lift(18);
        clash("the hero is hidden", stage, 0, NONE, NONE, NONE);
        stage = Edges.crowd(4);
        stage.move(1, 7, 0);
        stage.move(2, -7, 0);
        stage.move(3, 20, 0);
        clash("with two at two sides, and not with the last one", stage, 16, 0, 0, 2);
        stage.lower(0);
        clash("nor with the one ahead", stage, 16, 0, 0, 2);
        stage.setLimit(3);
        clash("the hero is hidden by the others", stage, 0, NONE, NONE, NONE);
    }

    /** [Promise 22] 3 the first puppet by the order, other than the hero, that clashes there (1 to 3: NONE without a clash) */
    private static void p22WithoutAClash() {
        clash("without puppets", new PuppetTurns(), 0, NONE, NONE, NONE);
        clash("alone", Edges.crowd(1), 0, NONE, NONE, NONE);
        PuppetTurns stage = Edges.crowd(3);
        clash("of three", stage, 64, 0, 0, 1);
        stage.lower(1);
        clash("by the order", stage, 64, 0, 0, 2);
        stage.lower(0);
        clash("the hero being the last one", stage, 64, 0, 0, 2);
        stage.move(2, 8, 0);
        clash("who does not clash there", stage, 64, 0, 0, 1);
        stage.move(1, 0, 8);
        clash("none clashes", stage, 0, NONE, NONE, NONE);
        stage.leave(0);
        stage.move(2, 7, 15);
        clash("with another hero", stage, 1, 7, 15, 2);
        stage.leave(1);
        clash("the last puppet", stage, 0, NONE, NONE, NONE);
        stage.leave(2);
        clash("all have left", stage, 0, NONE, NONE, NONE);
    }

    private static void clash(String when, PuppetTurns stage, int... due) {
        for (int what = 0; what < due.length; what++) {
            check.due(when + ": clash(" + what + ")", stage.clash(what), due[what]);
        }
    }

    /** [Promise 22] Returns it; INVALID_ARGUMENT if what is out of range. */
    private static void p22Returns() {
        int[] wrong = {-1, 4, 5, -256, 256, Integer.MIN_VALUE, Integer.MAX_VALUE};
        for (int what : wrong) {
            edges.refused("clash(" + what + ")", stage -> stage.clash(what));
            check.due("clash(" + what + ") with a clash", Edges.crowd(2).clash(what), INVALID);
        }
    }

    /**
     * [Promise 23] Tells in how many of the next frames a puppet would be hidden on any line, if only frames were made
     * (their number is not limited).
     */
    private static void p23NotLimited() {
        PuppetTurns stage = Edges.ofAllFrames();
        stage.come(0, 0, 0, 0, 1);
        stage.come(0, 0, 0, 0, 1);
        stage.setLimit(1);
        check.due("at 9999 frames", stage.count(5), 9999);
        check.due("no frame can be made", stage.frame(), Edges.FULL);
        for (int frames = 1; frames <= 60; frames++) {
            check.due("hiddenIn(1," + frames + ")", stage.hiddenIn(1, frames), frames);
            check.due("hiddenIn(0," + frames + ")", stage.hiddenIn(0, frames), 0);
        }
        stage.setRule(1, 1);
        for (int frames = 1; frames <= 60; frames++) {
            check.due("by turns: hiddenIn(1," + frames + ")", stage.hiddenIn(1, frames), (frames + 1) / 2);
            check.due("by turns: hiddenIn(0," + frames + ")", stage.hiddenIn(0, frames), frames / 2);
        }
    }

    /** [Promise 23] `puppet`: a puppet */
    private static void p23Puppet() {
        edges.puppetsThatAreNot("hiddenIn", (stage, puppet) -> stage.hiddenIn(puppet, 1));
        edges.puppetsThatAreNot("hiddenIn", (stage, puppet) -> stage.hiddenIn(puppet, 60));
    }

    /** [Promise 23] `frames`: 1 to 60 */
    private static void p23Frames() {
        edges.range("hiddenIn", 1, 60, 0, 30, (stage, frames) -> stage.hiddenIn(2, frames));
        edges.range("hiddenIn", 1, 60, 1, 30, (stage, frames) -> stage.hiddenIn(0, frames));
        edges.refused("hiddenIn(0,0)", stage -> stage.hiddenIn(0, 0));
    }

    /** [Promise 23] Returns the number; INVALID_ARGUMENT if an argument is out of range. */
    private static void p23Returns() {
        PuppetTurns stage = Edges.crowd(20);
        stage.setLimit(1);
        stage.setRule(1, 19);
        check.due("the last one is the first one next", stage.hiddenIn(19, 2), 1);
        check.due("never yet", stage.hiddenIn(0, 1), 0);
        check.due("in 19 of 20", stage.hiddenIn(7, 20), 19);
        check.due("in 57 of 60", stage.hiddenIn(7, 60), 57);
        check.due("before its turn", stage.hiddenIn(7, 13), 13);
        check.due("with its turn", stage.hiddenIn(7, 14), 13);
        stage.frame();
        check.due("frames made before do not count", stage.hiddenIn(19, 1), 0);
        edges.refused("hiddenIn, all of it wrong", other -> other.hiddenIn(20, 61));
    }

    /**
     * [Promise 24] Tells behind how many frames each puppet would have been shown on all its lines in at least one of
     * them, if only frames were made.
     */
    private static void p24Tells() {
        for (int puppets = 1; puppets <= 20; puppets++) {
            PuppetTurns stage = Edges.crowd(puppets);
            stage.setLimit(1);
            check.due("rule 0 of " + puppets, stage.allShownIn(), puppets == 1 ? 1 : NONE);
            stage.setRule(1, 1);
            check.due("rule 1 of " + puppets, stage.allShownIn(), puppets);
            stage.setRule(2, 1);
            check.due("rule 2 of " + puppets, stage.allShownIn(), puppets);
            stage.setLimit(8);
            check.due("rule 2 by limit 8 of " + puppets, stage.allShownIn(), (puppets + 7) / 8);
        }
        PuppetTurns stage = new PuppetTurns();
        stage.setLimit(1);
        stage.come(0, 0, 0, 0, 1);
        stage.come(0, 15, 0, 0, 1);
        stage.come(0, 7, 1, 0, 1);
        check.due("on some lines alone is not enough", stage.allShownIn(), NONE);
        stage.setRule(2, 1);
        check.due("on all of them", stage.allShownIn(), 2);
        stage = Edges.ofAllFrames();
        stage.come(0, 0, 0, 0, 1);
        stage.come(0, 0, 0, 0, 1);
        stage.setLimit(1);
        stage.setRule(1, 1);
        check.due("at 9999 frames", stage.allShownIn(), 2);
    }

    /** [Promise 24] Returns the number, 0 without puppets, otherwise at least 1; NONE if it is more than 60. */
    private static void p24Returns() {
        PuppetTurns stage = new PuppetTurns();
        check.due("without puppets", stage.allShownIn(), 0);
        stage.come(0, 0, 0, 0, 1);
        check.due("one puppet", stage.allShownIn(), 1);
        stage.move(0, 0, -15);
        check.due("one puppet above the stage", stage.allShownIn(), 1);
        stage.leave(0);
        check.due("all have left", stage.allShownIn(), 0);
        stage = Edges.crowd(20);
        stage.setLimit(1);
        stage.setRule(1, 19);
        check.due("20 by a step of 19", stage.allShownIn(), 20);
        stage.setRule(1, 10);
        check.due("two of 20 in turns", stage.allShownIn(), NONE);
        stage.setLimit(8);
        check.due("sixteen of 20 in turns", stage.allShownIn(), NONE);
        stage.leave(19);
        stage.leave(9);
        check.due("18 by a step of 10", stage.allShownIn(), 3);
        stage.setRule(1, 18);
        check.due("18 by a step of 18", stage.allShownIn(), NONE);
        stage.setRule(1, 19);
        check.due("18 by a step of 19", stage.allShownIn(), 11);
    }

    /**
     * [Promise 25] Finds the step, 1 to 19, with which, by the rule 1 from now on, the greatest number of the next 20
     * frames in which one and the same puppet is hidden on any line would be smallest, of several the smallest step.
     */
    private static void p25Finds() {
        for (int puppets = 3; puppets <= 18; puppets++) {
            for (int rule = 0; rule <= 2; rule++) {
                PuppetTurns stage = twoAtTheEnd(puppets);
                stage.setRule(rule, 19);
                int[] due = byFrames(puppets);
                check.due("bestStep(0) of " + puppets, stage.bestStep(0), due[0]);
                check.due("bestStep(1) of " + puppets, stage.bestStep(1), due[1]);
            }
        }
        PuppetTurns stage = twoAtTheEnd(18);
        check.due("a step of 17", stage.bestStep(0), 17);
        check.due("with 18 frames", stage.bestStep(1), 18);
        stage = Edges.ofAllFrames();
        stage.come(0, 0, 0, 0, 1);
        stage.come(0, 0, 0, 0, 1);
        stage.setLimit(1);
        check.due("bestStep(0) at 9999 frames", stage.bestStep(0), 1);
        check.due("bestStep(1) at 9999 frames", stage.bestStep(1), 10);
    }

    /** Only the last two share lines, so the last one is hidden unless it is the first one of the order. */
    private static PuppetTurns twoAtTheEnd(int puppets) {
        PuppetTurns stage = new PuppetTurns();
        for (int puppet = 0; puppet < puppets; puppet++) {
            stage.come(0, puppet < puppets - 2 ? -15 : 20, 0, 0, 1);
        }
        stage.setLimit(1);
        return stage;
    }

    private static int[] byFrames(int puppets) {
        int[] best = {0, 21};
        for (int step = 1; step <= 19; step++) {
            PuppetTurns stage = twoAtTheEnd(puppets);
            stage.setRule(1, step);
            for (int frame = 0; frame < 20; frame++) {
                stage.frame();
            }
            int greatest = 0;
            for (int puppet = 0; puppet < puppets; puppet++) {
                greatest = Math.max(greatest, stage.puppet(puppet, 9));
            }
            if (greatest < best[1]) {
                best = new int[] {step, greatest};
            }
        }
        return best;
    }

    /** [Promise 25] of several the smallest step. */
    private static void p25SmallestStep() {
        PuppetTurns stage = new PuppetTurns();
        best("without puppets", stage, 1, 0);
        stage.come(0, 0, 0, 0, 1);
        best("one puppet", stage, 1, 0);
        stage.setLimit(1);
        stage.come(0, 0, 0, 0, 1);
        best("two puppets", stage, 1, 10);
        stage = Edges.crowd(20);
        best("20 by limit 8", stage, 1, 12);
        stage.setLimit(1);
        best("20 by limit 1", stage, 1, 19);
        stage.setLimit(8);
        stage.leave(0);
        best("19 by limit 8", stage, 1, 12);
        best("16 of no use, and two", twoAtTheEnd(17), 8, 18);
    }

    private static void best(String when, PuppetTurns stage, int step, int greatest) {
        check.due(when + ": bestStep(0)", stage.bestStep(0), step);
        check.due(when + ": bestStep(1)", stage.bestStep(1), greatest);
    }

    /** [Promise 25] `what`: 0 the step, 1 this greatest number */
    private static void p25What() {
        best("in use", Edges.busy(), 1, 13);
        best("of twelve, two at the end", twoAtTheEnd(12), 5, 18);
        PuppetTurns stage = twoAtTheEnd(18);
        check.due("the number asked for first", stage.bestStep(1), 18);
        check.due("then the step", stage.bestStep(0), 17);
        stage.setLimit(2);
        best("nobody hidden any more", stage, 1, 0);
    }

    /** [Promise 25] Returns it; INVALID_ARGUMENT if what is out of range. */
    private static void p25Returns() {
        int[] wrong = {-1, 2, 3, -256, 256, Integer.MIN_VALUE, Integer.MAX_VALUE};
        for (int what : wrong) {
            edges.refused("bestStep(" + what + ")", stage -> stage.bestStep(what));
        }
    }

    /** [Promise 26] Finds the line on which most puppets are hidden, of several the first one. */
    private static void p26Finds() {
        PuppetTurns stage = Edges.crowd(9);
        check.due("the first one of 8 lines", stage.worstLine(), 0);
        stage.move(0, 0, 7);
        check.due("the only line", stage.worstLine(), 7);
        stage = new PuppetTurns();
        stage.setLimit(1);
        stage.come(0, 47, 0, 0, 1);
        stage.come(63, 47, 0, 0, 1);
        check.due("line 47", stage.worstLine(), 47);
        stage.come(0, -7, 0, 0, 1);
        stage.come(-15, -7, 0, 0, 1);
        check.due("line 0, with as many", stage.worstLine(), 0);
        stage.come(0, 40, 0, 0, 1);
        check.due("line 47, with more", stage.worstLine(), 47);
        stage.come(0, -15, 1, 0, 1);
        check.due("line 0, with as many again", stage.worstLine(), 0);
        stage.lift(5);
        check.due("be the order as it may", stage.worstLine(), 0);
        stage.setLimit(2);
        check.due("by limit 2", stage.worstLine(), 0);
        stage.leave(5);
        check.due("by limit 2, one less", stage.worstLine(), 47);
    }

    /** [Promise 26] Returns the line; NONE if no puppet is hidden on any line. */
    private static void p26Returns() {
        check.due("without puppets", new PuppetTurns().worstLine(), NONE);
        for (int puppets = 1; puppets <= 20; puppets++) {
            PuppetTurns stage = Edges.crowd(puppets);
            check.due("of " + puppets, stage.worstLine(), puppets > 8 ? 0 : NONE);
            stage.setLimit(1);
            check.due("by limit 1 of " + puppets, stage.worstLine(), puppets > 1 ? 0 : NONE);
        }
        PuppetTurns stage = new PuppetTurns();
        for (int puppet = 0; puppet < 20; puppet++) {
            stage.come(0, -15, 0, 0, 1);
        }
        stage.setLimit(1);
        check.due("above the stage", stage.worstLine(), NONE);
    }
}

/** The boundary cases that promises 1 to 12 name; each sentence stands beside its test. */
public final class EdgesOfActionsTest {
    private static final int INVALID = Edges.INVALID;
    private static final int FULL = Edges.FULL;
    private static final int NONE = Edges.NONE;
    private static final Check check = new Check();
    private static final Edges edges = new Edges(check);

    public static void main(String[] args) {
        p1Empty();
        p2Picture();
        p2Row();
        p2Dots();
        p2Returns();
        p3Come();
        p3X();
        p3Y();
        p3Tall();
        p3Picture();
        p3Color();
        p3Returns();
        p4Puppet();
        p4Returns();
        p5Puppet();
        p5X();
        p5Y();
        p5Returns();
        p6Puppet();
        p6Flips();
        p6Returns();
        p7First();
        p7Puppet();
        p7Returns();
        p8Last();
        p8Puppet();
        p8Returns();
        p9Limit();
        p9Returns();
        p10Rule();
        p10Step();
        p10Returns();
        p11Returns();
        p12Removes();
        p12Returns();
        check.end();
    }

    /** [Promise 1] Creates an empty stage, with an empty text. */
    private static void p1Empty() {
        Edges.busy();
        PuppetTurns stage = new PuppetTurns();
        int[] counts = {0, 0, 8, 0, 1, 0, 0, 0, NONE, 0, 0};
        for (int what = 0; what < counts.length; what++) {
            check.due("new: count(" + what + ")", stage.count(what), counts[what]);
        }
        for (int y = 0; y < 48; y++) {
            for (int what = 0; what < 3; what++) {
                check.due("new: line(" + y + "," + what + ")", stage.line(y, what), 0);
            }
            check.due("new: shown(" + y + ",0)", stage.shown(y, 0), NONE);
            check.due("new: dot", stage.dot(y, y), 0);
        }
        for (int puppet = 0; puppet < 20; puppet++) {
            check.due("new: puppet(" + puppet + ",0)", stage.puppet(puppet, 0), INVALID);
        }
        int[] clash = {0, NONE, NONE, NONE};
        for (int what = 0; what < clash.length; what++) {
            check.due("new: clash(" + what + ")", stage.clash(what), clash[what]);
        }
        edges.failure("new", stage, NONE, NONE, NONE, NONE, NONE);
        check.due("new: hiddenIn(0,1)", stage.hiddenIn(0, 1), INVALID);
        check.due("new: allShownIn()", stage.allShownIn(), 0);
        check.due("new: bestStep(0)", stage.bestStep(0), 1);
        check.due("new: bestStep(1)", stage.bestStep(1), 0);
        check.due("new: worstLine()", stage.worstLine(), NONE);
        check.due("new: undo()", stage.undo(), Edges.STATE);
        check.due("new: clearText()", stage.clearText(), 0);
        check.due("new: frame()", stage.frame(), 0);
        check.due("new: run()", stage.run(), 0);
        check.due("new: come", stage.come(0, 0, 0, 0, 1), 0);
    }

    /** [Promise 2] `picture`: 0 to 7 */
    private static void p2Picture() {
        edges.range("setRow of picture", 0, 7, 255, 255, (stage, picture) -> stage.setRow(picture, 2, 9));
    }

    /** [Promise 2] `row`: 0 to 7 */
    private static void p2Row() {
        edges.range("setRow of row", 0, 7, 255, 1, (stage, row) -> stage.setRow(7, row, 9));
        edges.range("setRow of row in picture 0", 0, 7, 255, 255, (stage, row) -> stage.setRow(0, row, 9));
    }

    /** [Promise 2] `dots`: 0 to 255 */
    private static void p2Dots() {
        edges.range("setRow of dots", 0, 255, 77, 77, (stage, dots) -> stage.setRow(1, 2, dots));
        PuppetTurns stage = new PuppetTurns();
        for (int dots = 0; dots <= 255; dots++) {
            check.due("setRow to " + dots, stage.setRow(6, 6, dots), dots == 0 ? 255 : dots - 1);
        }
        check.due("setRow behind 255", stage.setRow(6, 6, 0), 255);
    }

    /** [Promise 2] Returns what it was; INVALID_ARGUMENT if an argument is out of range. */
    private static void p2Returns() {
        PuppetTurns stage = new PuppetTurns();
        check.due("at first", stage.setRow(0, 0, 0), 255);
        check.due("0", stage.setRow(0, 0, 0), 0);
        check.due("0 again", stage.setRow(0, 0, 128), 0);
        check.due("128", stage.setRow(0, 0, 255), 128);
        check.due("255", stage.setRow(0, 0, 255), 255);
        check.due("the row behind", stage.setRow(0, 1, 255), 255);
        edges.refused("setRow, all of it wrong", other -> other.setRow(8, 8, 256));
        edges.refused("setRow(0,8,1)", other -> other.setRow(0, 8, 1));
        edges.refused("setRow(1,-1,1)", other -> other.setRow(1, -1, 1));
    }

    /** [Promise 3] Lets a puppet come, which has no flips. */
    private static void p3Come() {
        PuppetTurns stage = Edges.crowd(1);
        stage.turn(0, 3);
        stage.leave(0);
        stage.come(0, 0, 0, 0, 1);
        check.due("flips", stage.puppet(1, 5), 0);
        stage.turn(1, 3);
        stage.setLimit(1);
        stage.lift(1);
        stage.come(0, 0, 0, 0, 1);
        stage.frame();
        stage.turn(2, 2);
        check.due("undo", stage.undo(), 4);
        check.due("undo", stage.undo(), 3);
        check.due("undo", stage.undo(), 2);
        check.due("come again", stage.come(9, 9, 1, 1, 2), 2);
        int[] due = {9, 9, 1, 1, 2, 0, 1, 16, 0, 0, 0, 0};
        stage.setLimit(8);
        for (int what = 0; what < due.length; what++) {
            check.due("nothing is left of who was undone: puppet(2," + what + ")", stage.puppet(2, what), due[what]);
        }
    }

    /** [Promise 3] `x`: -15 to 63 */
    private static void p3X() {
        edges.range("come with x", -15, 63, 4, 4, (stage, x) -> stage.come(x, 3, 0, 0, 1));
        comes(-15, 3, 0, 0, 1);
        comes(63, 3, 0, 0, 1);
    }

    /** [Promise 3] `y`: -15 to 47 */
    private static void p3Y() {
        edges.range("come with y", -15, 47, 4, 4, (stage, y) -> stage.come(3, y, 0, 0, 1));
        comes(3, -15, 0, 0, 1);
        comes(3, 47, 0, 0, 1);
    }

    /** [Promise 3] `tall`: 1 for a tall one, 0 for a low one */
    private static void p3Tall() {
        edges.range("come with tall", 0, 1, 4, 4, (stage, tall) -> stage.come(3, 3, tall, 0, 1));
        comes(3, 3, 0, 0, 1);
        comes(3, 3, 1, 0, 1);
        PuppetTurns stage = new PuppetTurns();
        stage.come(0, 0, 1, 0, 1);
        stage.come(0, 0, 0, 0, 1);
        check.due("lines of a tall one", stage.puppet(0, 7), 16);
        check.due("lines of a low one", stage.puppet(1, 7), 8);
    }

    /** [Promise 3] `picture`: 0 to 7 */
    private static void p3Picture() {
        edges.range("come with picture", 0, 7, 4, 4, (stage, picture) -> stage.come(3, 3, 0, picture, 1));
        comes(3, 3, 0, 0, 1);
        comes(3, 3, 0, 7, 1);
    }

    /** [Promise 3] `color`: 1 to 9 */
    private static void p3Color() {
        edges.range("come with color", 1, 9, 4, 4, (stage, color) -> stage.come(3, 3, 0, 0, color));
        edges.refused("come with color 0", stage -> stage.come(3, 3, 0, 0, 0));
        comes(3, 3, 0, 0, 1);
        comes(3, 3, 0, 0, 9);
        PuppetTurns stage = new PuppetTurns();
        stage.come(3, 3, 0, 0, 9);
        check.due("a dot of color 9", stage.dot(3, 3), 9);
    }

    private static void comes(int... due) {
        PuppetTurns stage = new PuppetTurns();
        check.due("come", stage.come(due[0], due[1], due[2], due[3], due[4]), 0);
        for (int what = 0; what < due.length; what++) {
            check.due("puppet(0," + what + ")", stage.puppet(0, what), due[what]);
        }
    }

    /**
     * [Promise 3] Returns its number; INVALID_ARGUMENT if an argument is out of range; CAPACITY_EXCEEDED if 20 puppets
     * have come.
     */
    private static void p3Returns() {
        PuppetTurns stage = new PuppetTurns();
        for (int puppet = 0; puppet < 20; puppet++) {
            check.due("come wrong before " + puppet, stage.come(0, 0, 0, 0, 10), INVALID);
            check.due("come " + puppet, stage.come(0, 0, 0, 0, 1), puppet);
            if (puppet % 2 == 0) {
                stage.leave(puppet);
            }
        }
        check.due("20 have come, 10 are there", stage.come(0, 0, 0, 0, 1), FULL);
        check.due("wrong rather than full", stage.come(0, 0, 0, 0, 10), INVALID);
        check.due("undo of the last one", stage.undo(), 4);
        check.due("19 have come", stage.come(0, 0, 0, 0, 1), 19);
        check.due("20 have come", stage.come(0, 0, 0, 0, 1), FULL);
        edges.changesNothing("come 20", FULL, () -> Edges.crowd(20), other -> other.come(1, 1, 1, 1, 1));
    }

    /** [Promise 4] `puppet`: a puppet */
    private static void p4Puppet() {
        edges.puppetsThatAreNot("leave", PuppetTurns::leave);
    }

    /** [Promise 4] Returns the position that it had in the order, from 0; INVALID_ARGUMENT if there is no such puppet. */
    private static void p4Returns() {
        PuppetTurns stage = Edges.crowd(20);
        check.due("the last one", stage.leave(19), 19);
        check.due("the first one", stage.leave(0), 0);
        check.due("twice", stage.leave(0), INVALID);
        check.due("the next first one", stage.leave(1), 0);
        check.due("one between", stage.leave(10), 8);
        edges.order("the others close up", stage, 2, 3, 4, 5, 6, 7, 8, 9, 11, 12, 13, 14, 15, 16, 17, 18);
        stage = Edges.crowd(1);
        check.due("the only one", stage.leave(0), 0);
        check.due("no puppet", stage.leave(0), INVALID);
        check.due("puppets", stage.count(0), 0);
        check.due("states", stage.count(9), 2);
        check.due("undo", stage.undo(), 1);
        check.due("it is there again", stage.leave(0), 0);
    }

    /** [Promise 5] `puppet`: a puppet */
    private static void p5Puppet() {
        edges.puppetsThatAreNot("move", (stage, puppet) -> stage.move(puppet, 0, 0));
    }

    /** [Promise 5] `x`: -15 to 63 */
    private static void p5X() {
        edges.range("move to x", -15, 63, 16, 16, (stage, x) -> stage.move(0, x, 9));
        PuppetTurns stage = Edges.crowd(1);
        for (int x = -15; x <= 63; x++) {
            check.due("move to x " + x, stage.move(0, x, 0), 8);
            check.due("x", stage.puppet(0, 0), x);
        }
    }

    /** [Promise 5] `y`: -15 to 47 */
    private static void p5Y() {
        edges.range("move to y", -15, 47, 1, 1, (stage, y) -> stage.move(0, 9, y));
        PuppetTurns stage = Edges.crowd(1);
        for (int y = -15; y <= 47; y++) {
            check.due("move to y " + y, stage.move(0, 0, y), Math.min(Math.max(y + 8, 0), Math.min(8, 48 - y)));
            check.due("y", stage.puppet(0, 1), y);
        }
    }

    /**
     * [Promise 5] Returns the number of lines of the stage on which it stands then; INVALID_ARGUMENT if an argument is
     * out of range.
     */
    private static void p5Returns() {
        PuppetTurns stage = new PuppetTurns();
        stage.come(0, 0, 0, 0, 1);
        stage.come(0, 0, 1, 0, 1);
        int[][] due = {{0, -15, 0}, {0, -9, 0}, {0, -8, 0}, {0, -7, 1}, {0, -1, 7}, {0, 0, 8}, {0, 40, 8}, {0, 41, 7},
            {0, 46, 2}, {0, 47, 1}, {1, -15, 1}, {1, -14, 2}, {1, -1, 15}, {1, 0, 16}, {1, 32, 16}, {1, 33, 15},
            {1, 46, 2}, {1, 47, 1}};
        for (int[] one : due) {
            check.due("lines of " + one[0] + " at y " + one[1], stage.move(one[0], -15, one[1]), one[2]);
            check.due("the same beside the stage", stage.move(one[0], 63, one[1]), one[2]);
        }
        edges.refused("move, all of it wrong", other -> other.move(20, 64, 48));
        edges.changesNothing("move, x right and y wrong", INVALID, Edges::busy, other -> other.move(0, 9, 48));
        edges.changesNothing("move, x wrong and y right", INVALID, Edges::busy, other -> other.move(0, 64, 9));
    }

    /** [Promise 6] `puppet`: a puppet */
    private static void p6Puppet() {
        edges.puppetsThatAreNot("turn", (stage, puppet) -> stage.turn(puppet, 1));
    }

    /** [Promise 6] `flips`: 0 to 3 */
    private static void p6Flips() {
        edges.range("turn to flips", 0, 3, 2, 2, (stage, flips) -> stage.turn(3, flips));
    }

    /** [Promise 6] Returns the previous flips; INVALID_ARGUMENT if an argument is out of range. */
    private static void p6Returns() {
        PuppetTurns stage = Edges.crowd(2);
        int previous = 0;
        for (int flips : new int[] {0, 3, 3, 0, 1, 2, 3, 1, 0}) {
            check.due("turn to " + flips, stage.turn(1, flips), previous);
            previous = flips;
        }
        check.due("the other's flips", stage.turn(0, 1), 0);
        edges.refused("turn, all of it wrong", other -> other.turn(20, 4));
    }

    /** [Promise 7] Makes a puppet the first one of the order; the others keep their order among themselves. */
    private static void p7First() {
        PuppetTurns stage = Edges.crowd(5);
        stage.lift(0);
        edges.order("lift of the first one", stage, 0, 1, 2, 3, 4);
        stage.lift(4);
        edges.order("lift of the last one", stage, 4, 0, 1, 2, 3);
        stage.lift(1);
        edges.order("lift of one between", stage, 1, 4, 0, 2, 3);
        stage = Edges.crowd(1);
        stage.lift(0);
        edges.order("lift of the only one", stage, 0);
        stage = Edges.crowd(20);
        stage.lift(19);
        edges.order("lift of the twentieth", stage, 19, 0, 1, 2, 3, 4, 5, 6, 7, 8, 9, 10, 11, 12, 13, 14, 15, 16, 17, 18);
    }

    /** [Promise 7] `puppet`: a puppet */
    private static void p7Puppet() {
        edges.puppetsThatAreNot("lift", PuppetTurns::lift);
    }

    /** [Promise 7] Returns the position that it had, from 0; INVALID_ARGUMENT if there is no such puppet. */
    private static void p7Returns() {
        PuppetTurns stage = Edges.crowd(20);
        check.due("the first one", stage.lift(0), 0);
        check.due("the last one", stage.lift(19), 19);
        check.due("is the first one then", stage.lift(19), 0);
        check.due("the others are one behind", stage.lift(7), 8);
        check.due("without puppets", new PuppetTurns().lift(0), INVALID);
    }

    /** [Promise 8] Makes a puppet the last one of the order; the others keep their order among themselves. */
    private static void p8Last() {
        PuppetTurns stage = Edges.crowd(5);
        stage.lower(4);
        edges.order("lower of the last one", stage, 0, 1, 2, 3, 4);
        stage.lower(0);
        edges.order("lower of the first one", stage, 1, 2, 3, 4, 0);
        stage.lower(3);
        edges.order("lower of one between", stage, 1, 2, 4, 0, 3);
        stage = Edges.crowd(1);
        stage.lower(0);
        edges.order("lower of the only one", stage, 0);
        stage = Edges.crowd(20);
        stage.lower(0);
        edges.order("lower of the first of 20", stage, 1, 2, 3, 4, 5, 6, 7, 8, 9, 10, 11, 12, 13, 14, 15, 16, 17, 18, 19, 0);
    }

    /** [Promise 8] `puppet`: a puppet */
    private static void p8Puppet() {
        edges.puppetsThatAreNot("lower", PuppetTurns::lower);
    }

    /** [Promise 8] Returns the position that it had, from 0; INVALID_ARGUMENT if there is no such puppet. */
    private static void p8Returns() {
        PuppetTurns stage = Edges.crowd(20);
        check.due("the last one", stage.lower(19), 19);
        check.due("the first one", stage.lower(0), 0);
        check.due("is the last one then", stage.lower(0), 19);
        check.due("the others are one ahead", stage.lower(7), 6);
        check.due("without puppets", new PuppetTurns().lower(0), INVALID);
    }

    /** [Promise 9] `limit`: 1 to 8 */
    private static void p9Limit() {
        edges.range("setLimit", 1, 8, 1, 1, PuppetTurns::setLimit);
        edges.refused("setLimit(0)", stage -> stage.setLimit(0));
    }

    /** [Promise 9] Returns the previous limit; INVALID_ARGUMENT if limit is out of range. */
    private static void p9Returns() {
        PuppetTurns stage = Edges.crowd(9);
        int previous = 8;
        for (int limit : new int[] {8, 1, 1, 2, 3, 4, 5, 6, 7, 8}) {
            check.due("setLimit(" + limit + ")", stage.setLimit(limit), previous);
            check.due("setLimit(9)", stage.setLimit(9), INVALID);
            check.due("setLimit(0)", stage.setLimit(0), INVALID);
            check.due("the limit", stage.count(2), limit);
            check.due("shown", stage.line(0, 1), limit);
            previous = limit;
        }
    }

    /** [Promise 10] `rule`: 0 to 2 */
    private static void p10Rule() {
        edges.range("setRule to rule", 0, 2, 2, 2, (stage, rule) -> stage.setRule(rule, 5));
    }

    /** [Promise 10] `step`: 1 to 19 */
    private static void p10Step() {
        edges.range("setRule to step", 1, 19, 2, 2, (stage, step) -> stage.setRule(1, step));
        edges.range("setRule to a step of rule 0", 1, 19, 2, 2, (stage, step) -> stage.setRule(0, step));
        edges.range("setRule to a step of rule 2", 1, 19, 2, 2, (stage, step) -> stage.setRule(2, step));
        PuppetTurns stage = new PuppetTurns();
        for (int step = 1; step <= 19; step++) {
            stage.setRule(step % 3, step);
            check.due("the step", stage.count(4), step);
            check.due("the rule", stage.count(3), step % 3);
        }
    }

    /** [Promise 10] Returns the previous rule; INVALID_ARGUMENT if an argument is out of range. */
    private static void p10Returns() {
        PuppetTurns stage = new PuppetTurns();
        int previous = 0;
        for (int rule : new int[] {0, 2, 2, 1, 0, 1, 2}) {
            check.due("setRule(" + rule + ",4)", stage.setRule(rule, 4), previous);
            check.due("setRule(3,1)", stage.setRule(3, 1), INVALID);
            check.due("setRule(0,20)", stage.setRule(0, 20), INVALID);
            check.due("setRule(3,20)", stage.setRule(3, 20), INVALID);
            check.due("the rule", stage.count(3), rule);
            check.due("the step", stage.count(4), 4);
            previous = rule;
        }
        edges.changesNothing("setRule, the step wrong", INVALID, Edges::busy, other -> other.setRule(0, 0));
        edges.changesNothing("setRule, the rule wrong", INVALID, Edges::busy, other -> other.setRule(3, 1));
    }

    /**
     * [Promise 11] Returns the number of puppets that were hidden on any line in it; CAPACITY_EXCEEDED if 9999 frames
     * were made.
     */
    private static void p11Returns() {
        check.due("without puppets", new PuppetTurns().frame(), 0);
        check.due("8 at limit 8", Edges.crowd(8).frame(), 0);
        check.due("9 at limit 8", Edges.crowd(9).frame(), 1);
        check.due("20 at limit 8", Edges.crowd(20).frame(), 12);
        PuppetTurns stage = Edges.crowd(20);
        stage.setLimit(1);
        stage.setRule(1, 1);
        check.due("20 at limit 1", stage.frame(), 19);
        stage.move(0, 0, 8);
        check.due("in it, not behind its turn", stage.frame(), 18);
        stage = Edges.ofAllFrames();
        check.due("frames", stage.count(5), 9999);
        check.due("a frame too many", stage.frame(), FULL);
        edges.changesNothing("a frame too many", FULL, Edges::ofAllFrames, PuppetTurns::frame);
        stage.undo();
        Check.run(stage, "9(9(2(f;)))9(4(f;))");
        check.due("9998 frames", stage.count(5), 9998);
        check.due("frame 9999", stage.frame(), 0);
        check.due("frames", stage.count(5), 9999);
        check.due("a frame too many", stage.frame(), FULL);
        check.due("one is undone", stage.undo(), 4);
        check.due("frame 9999", stage.frame(), 0);
        check.due("a frame too many", stage.frame(), FULL);
    }

    /** [Promise 12] Removes the latest state from the history and restores it. */
    private static void p12Removes() {
        PuppetTurns stage = new PuppetTurns();
        stage.come(1, 1, 0, 0, 1);
        check.due("undo of the only action", stage.undo(), 0);
        check.due("puppets", stage.count(0), 0);
        check.due("have come", stage.count(1), 0);
        check.due("removed", stage.undo(), Edges.STATE);
        check.due("the number is given again", stage.come(2, 2, 1, 1, 2), 0);
        check.due("x", stage.puppet(0, 0), 2);
        for (int x = 10; x < 60; x++) {
            stage.move(0, x, 2);
        }
        for (int left = 4; left >= 0; left--) {
            check.due("undo", stage.undo(), left);
            check.due("x", stage.puppet(0, 0), 54 + left);
        }
        check.due("no sixth one", stage.undo(), Edges.STATE);
        check.due("x stays", stage.puppet(0, 0), 54);
    }

    /** [Promise 12] Returns the number of states that are left in the history; ILLEGAL_STATE if it is empty. */
    private static void p12Returns() {
        for (int actions = 0; actions <= 7; actions++) {
            PuppetTurns stage = new PuppetTurns();
            for (int action = 0; action < actions; action++) {
                stage.frame();
            }
            edges.states(actions + " frames", stage, Math.min(actions, 5));
            check.due("frames left", stage.count(5), Math.max(actions - 5, 0));
            stage.frame();
            edges.states("a frame more", stage, 1);
        }
        edges.changesNothing("undo of nothing", Edges.STATE, PuppetTurns::new, PuppetTurns::undo);
        edges.changesNothing("undo of a failed play", Edges.STATE, EdgesOfActionsTest::ofAFailedPlay, PuppetTurns::undo);
    }

    private static PuppetTurns ofAFailedPlay() {
        PuppetTurns stage = new PuppetTurns();
        Check.run(stage, "l5;u0;");
        return stage;
    }
}

/** Promises 1 to 8: a new object, pictures, and puppets that come, leave, move, turn, and are lifted and lowered. */
public final class PuppetsTest {
    private static final int INVALID = PuppetTurns.INVALID_ARGUMENT;
    private static final int FULL = PuppetTurns.CAPACITY_EXCEEDED;
    private static final int NONE = PuppetTurns.NONE;
    private static final Check check = new Check();

    public static void main(String[] args) {
        promise1NewObject();
        promise2SetRow();
        promise3Come();
        promise3ComeIsFull();
        promise4Leave();
        promise5Move();
        promise6Turn();
        promise7Lift();
        promise8Lower();
        check.end();
    }

    private static void promise1NewObject() {
        PuppetTurns stage = new PuppetTurns();
        int[] counts = {0, 0, 8, 0, 1, 0, 0, 0, NONE, 0, 0};
        for (int what = 0; what < counts.length; what++) {
            check.due("new: count(" + what + ")", stage.count(what), counts[what]);
        }
        for (int picture = 0; picture < 8; picture++) {
            for (int row = 0; row < 8; row++) {
                check.due("new: setRow(" + picture + "," + row + ")", stage.setRow(picture, row, 0), 255);
            }
        }
        check.due("new: failure(0)", new PuppetTurns().failure(0), NONE);
        check.due("new: undo()", new PuppetTurns().undo(), PuppetTurns.ILLEGAL_STATE);
    }

    private static void promise2SetRow() {
        PuppetTurns stage = new PuppetTurns();
        stage.come(0, 0, 0, 3, 5);
        check.due("setRow(3,2,129)", stage.setRow(3, 2, 129), 255);
        check.due("setRow(3,2,0)", stage.setRow(3, 2, 0), 129);
        check.due("setRow(3,2,128)", stage.setRow(3, 2, 128), 0);
        check.due("left dot", stage.dot(0, 2), 5);
        check.due("right dot", stage.dot(7, 2), 0);
        check.due("setRow(0,0,1)", stage.setRow(0, 0, 1), 255);
        check.due("setRow(7,7,2)", stage.setRow(7, 7, 2), 255);
        check.due("five states", stage.count(9), 5);
        int[][] wrong = {{-1, 0, 0}, {8, 0, 0}, {0, -1, 0}, {0, 8, 0}, {0, 0, -1}, {0, 0, 256},
            {Integer.MIN_VALUE, 0, 0}, {0, Integer.MAX_VALUE, 0}};
        stage.undo();
        for (int[] one : wrong) {
            check.due("setRow wrong", stage.setRow(one[0], one[1], one[2]), INVALID);
        }
        check.due("wrong ones record nothing", stage.count(9), 4);
        check.due("wrong ones change nothing", stage.setRow(0, 0, 7), 1);
        check.due("an undone row", stage.setRow(7, 7, 7), 255);
    }

    private static void promise3Come() {
        PuppetTurns stage = new PuppetTurns();
        check.due("come least", stage.come(-15, -15, 0, 0, 1), 0);
        check.due("come greatest", stage.come(63, 47, 1, 7, 9), 1);
        int[] due = {63, 47, 1, 7, 9, 0, 1, 1, 0, 0, 0, 0};
        for (int what = 0; what < due.length; what++) {
            check.due("puppet(1," + what + ")", stage.puppet(1, what), due[what]);
        }
        int[][] wrong = {{-16, 0, 0, 0, 1}, {64, 0, 0, 0, 1}, {0, -16, 0, 0, 1}, {0, 48, 0, 0, 1},
            {0, 0, -1, 0, 1}, {0, 0, 2, 0, 1}, {0, 0, 0, -1, 1}, {0, 0, 0, 8, 1}, {0, 0, 0, 0, 0}, {0, 0, 0, 0, 10}};
        for (int[] one : wrong) {
            check.due("come wrong", stage.come(one[0], one[1], one[2], one[3], one[4]), INVALID);
        }
        check.due("wrong ones record nothing", stage.count(9), 2);
        check.due("wrong ones do not come", stage.count(1), 2);
        stage.leave(1);
        check.due("a number is not used again", stage.come(0, 0, 0, 0, 1), 2);
        check.due("the last one of the order", stage.puppet(2, 6), 1);
    }

    private static void promise3ComeIsFull() {
        PuppetTurns stage = new PuppetTurns();
        for (int puppet = 0; puppet < 20; puppet++) {
            check.due("come " + puppet, stage.come(puppet, puppet, 0, 0, 1), puppet);
        }
        check.due("come 20", stage.come(0, 0, 0, 0, 1), FULL);
        check.due("wrong before full", stage.come(0, 0, 0, 0, 0), INVALID);
        stage.leave(3);
        check.due("who has left has come", stage.come(0, 0, 0, 0, 1), FULL);
        check.due("come 20 records nothing", stage.count(9), 5);
        stage.undo();
        stage.undo();
        check.due("undone, there is room", stage.come(9, 9, 1, 1, 2), 19);
    }

    private static void promise4Leave() {
        PuppetTurns stage = ofThree();
        check.due("leave(1)", stage.leave(1), 1);
        check.due("leave(1) again", stage.leave(1), INVALID);
        check.due("position of 2", stage.puppet(2, 6), 1);
        check.due("puppets", stage.count(0), 2);
        check.due("come", stage.count(1), 3);
        check.due("no property", stage.puppet(1, 0), INVALID);
        check.due("leave(0)", stage.leave(0), 0);
        check.due("leave(2)", stage.leave(2), 0);
        check.due("hero", stage.count(8), NONE);
        check.due("states", stage.count(9), 5);
        stage.undo();
        check.due("leave(-1)", stage.leave(-1), INVALID);
        check.due("leave(3)", stage.leave(3), INVALID);
        check.due("leave(20)", stage.leave(20), INVALID);
        check.due("leave(least)", stage.leave(Integer.MIN_VALUE), INVALID);
        check.due("wrong ones record nothing", stage.count(9), 4);
    }

    private static void promise5Move() {
        PuppetTurns stage = new PuppetTurns();
        stage.come(0, 0, 0, 0, 1);
        stage.come(0, 0, 1, 0, 1);
        int[][] due = {{0, -15, 0}, {0, -8, 0}, {0, -7, 1}, {0, 0, 8}, {0, 40, 8}, {0, 41, 7}, {0, 47, 1},
            {1, -15, 1}, {1, -1, 15}, {1, 0, 16}, {1, 32, 16}, {1, 33, 15}, {1, 47, 1}};
        for (int[] one : due) {
            check.due("move(" + one[0] + ",5," + one[1] + ")", stage.move(one[0], 5, one[1]), one[2]);
            check.due("lines of " + one[0], stage.puppet(one[0], 7), one[2]);
            check.due("y of " + one[0], stage.puppet(one[0], 1), one[1]);
        }
        check.due("left of the stage it stands all the same", stage.move(0, -15, 3), 8);
        check.due("x", stage.puppet(0, 0), -15);
        check.due("move(0,63,3)", stage.move(0, 63, 3), 8);
        check.due("states", stage.count(9), 5);
        stage.undo();
        int[][] wrong = {{2, 0, 0}, {-1, 0, 0}, {0, -16, 0}, {0, 64, 0}, {0, 0, -16}, {0, 0, 48}};
        for (int[] one : wrong) {
            check.due("move wrong", stage.move(one[0], one[1], one[2]), INVALID);
        }
        check.due("wrong ones record nothing", stage.count(9), 4);
        check.due("wrong ones move nothing", stage.puppet(0, 0), -15);
    }

    private static void promise6Turn() {
        PuppetTurns stage = new PuppetTurns();
        for (int row = 0; row < 8; row++) {
            stage.setRow(7, row, 0);
            stage.setRow(0, row, 0);
        }
        stage.setRow(7, 1, 0b01000000);
        stage.setRow(0, 2, 0b00000001);
        stage.come(10, 10, 1, 7, 3);
        int[][] corners = {{11, 11, 17, 20}, {16, 11, 10, 20}, {11, 24, 17, 15}, {16, 24, 10, 15}};
        for (int flips = 0; flips < 4; flips++) {
            check.due("turn to " + flips, stage.turn(0, flips), Math.max(flips - 1, 0));
            check.due("upper picture, flips " + flips, stage.dot(corners[flips][0], corners[flips][1]), 3);
            check.due("lower picture, flips " + flips, stage.dot(corners[flips][2], corners[flips][3]), 3);
            check.due("no other dots", stage.count(7), 2);
            check.due("flips", stage.puppet(0, 5), flips);
        }
        stage.come(30, 30, 0, 7, 4);
        stage.turn(1, 2);
        check.due("a low puppet turned over", stage.dot(31, 36), 4);
        stage.undo();
        check.due("states", stage.count(9), 4);
        check.due("turn(0,-1)", stage.turn(0, -1), INVALID);
        check.due("turn(0,4)", stage.turn(0, 4), INVALID);
        check.due("turn(2,0)", stage.turn(2, 0), INVALID);
        check.due("wrong ones record nothing", stage.count(9), 4);
        check.due("wrong ones turn nothing", stage.puppet(0, 5), 3);
        check.due("turn(0,3) again", stage.turn(0, 3), 3);
        check.due("recorded though nothing changes", stage.count(9), 5);
    }

    private static void promise7Lift() {
        PuppetTurns stage = ofThree();
        check.due("lift(2)", stage.lift(2), 2);
        order(stage, 2, 0, 1);
        check.due("lift(0)", stage.lift(0), 1);
        order(stage, 0, 2, 1);
        check.due("lift(0) again", stage.lift(0), 0);
        order(stage, 0, 2, 1);
        check.due("states", stage.count(9), 5);
        stage.undo();
        check.due("lift(3)", stage.lift(3), INVALID);
        check.due("lift(-1)", stage.lift(-1), INVALID);
        check.due("wrong ones record nothing", stage.count(9), 4);
    }

    private static void promise8Lower() {
        PuppetTurns stage = ofThree();
        check.due("lower(0)", stage.lower(0), 0);
        order(stage, 1, 2, 0);
        check.due("lower(2)", stage.lower(2), 1);
        order(stage, 1, 0, 2);
        check.due("lower(2) again", stage.lower(2), 2);
        order(stage, 1, 0, 2);
        check.due("states", stage.count(9), 5);
        stage.undo();
        check.due("lower(3)", stage.lower(3), INVALID);
        check.due("lower(-1)", stage.lower(-1), INVALID);
        check.due("wrong ones record nothing", stage.count(9), 4);
    }

    private static PuppetTurns ofThree() {
        PuppetTurns stage = new PuppetTurns();
        stage.come(0, 0, 0, 0, 1);
        stage.come(0, 0, 0, 0, 2);
        stage.come(0, 0, 0, 0, 3);
        return stage;
    }

    private static void order(PuppetTurns stage, int... puppets) {
        for (int position = 0; position < puppets.length; position++) {
            check.due("position of " + puppets[position], stage.puppet(puppets[position], 6), position);
        }
    }
}

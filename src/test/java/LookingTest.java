/** Promises 17 to 22: counts, properties of puppets and lines, puppets shown, dots and clashes. */
public final class LookingTest {
    private static final int INVALID = PuppetTurns.INVALID_ARGUMENT;
    private static final int NONE = PuppetTurns.NONE;
    private static final Check check = new Check();

    public static void main(String[] args) {
        promise17Count();
        promise17CountOfHidden();
        promise18Puppet();
        promise19Line();
        promise20Shown();
        promise21Dot();
        promise21DotAtTheEdges();
        promise22Clash();
        promise22ClashOfHidden();
        promise22FirstOther();
        check.end();
    }

    private static void promise17Count() {
        PuppetTurns stage = new PuppetTurns();
        stage.come(0, 0, 0, 0, 1);
        stage.come(4, 4, 0, 0, 2);
        stage.come(60, 44, 0, 0, 3);
        stage.leave(0);
        stage.setLimit(1);
        stage.setRule(1, 6);
        stage.frame();
        stage.move(2, 60, 11);
        Check.text(stage, "abc");
        int[] due = {2, 3, 1, 1, 6, 1, 1, 92, 1, 5, 3};
        for (int what = 0; what < due.length; what++) {
            check.due("count(" + what + ")", stage.count(what), due[what]);
        }
        check.due("count(-1)", stage.count(-1), INVALID);
        check.due("count(11)", stage.count(11), INVALID);
        stage.setRow(0, 0, 0);
        check.due("dots without a row", stage.count(7), 84);
        check.due("looking is no action", stage.count(9), 5);
        stage.lift(2);
        check.due("hidden after a lift", stage.count(6), 1);
        stage.leave(2);
        check.due("alone", stage.count(6), 0);
    }

    private static void promise17CountOfHidden() {
        PuppetTurns stage = new PuppetTurns();
        stage.come(0, 0, 0, 0, 1);
        stage.come(0, 7, 0, 0, 1);
        stage.come(0, 14, 0, 0, 1);
        stage.setLimit(1);
        check.due("the last two", stage.count(6), 2);
        stage.lift(2);
        check.due("the one between", stage.count(6), 1);
        stage.lift(1);
        check.due("both others, with the hero", stage.count(6), 2);
    }

    private static void promise18Puppet() {
        PuppetTurns stage = new PuppetTurns();
        stage.come(5, 40, 0, 1, 2);
        stage.come(-3, 33, 1, 6, 9);
        stage.turn(1, 2);
        stage.setLimit(1);
        stage.frame();
        stage.frame();
        stage.move(0, 0, 0);
        stage.frame();
        stage.move(0, 5, 41);
        stage.frame();
        int[] due = {-3, 33, 1, 6, 9, 2, 1, 15, 7, 3, 1, 2};
        for (int what = 0; what < due.length; what++) {
            check.due("puppet(1," + what + ")", stage.puppet(1, what), due[what]);
        }
        int[] hero = {5, 41, 0, 1, 2, 0, 0, 7, 0, 0, 0, 0};
        for (int what = 0; what < hero.length; what++) {
            check.due("puppet(0," + what + ")", stage.puppet(0, what), hero[what]);
        }
        stage.lower(0);
        check.due("lines hidden once lowered", stage.puppet(0, 8), 7);
        check.due("lines hidden now", stage.puppet(1, 8), 0);
        check.due("puppet(0,-1)", stage.puppet(0, -1), INVALID);
        check.due("puppet(0,12)", stage.puppet(0, 12), INVALID);
        check.due("puppet(-1,0)", stage.puppet(-1, 0), INVALID);
        check.due("puppet(2,0)", stage.puppet(2, 0), INVALID);
        check.due("puppet(20,0)", stage.puppet(20, 0), INVALID);
        stage.leave(1);
        check.due("who has left", stage.puppet(1, 0), INVALID);
    }

    private static void promise19Line() {
        PuppetTurns stage = new PuppetTurns();
        check.due("an empty line", stage.line(0, 0), 0);
        stage.come(60, 10, 0, 0, 1);
        stage.come(-15, 14, 0, 0, 1);
        stage.come(0, 17, 0, 1, 1);
        stage.setLimit(2);
        stage.setRow(1, 0, 0b10100000);
        int[][] due = {{9, 0, 0, 0}, {10, 1, 1, 4}, {13, 1, 1, 4}, {14, 2, 2, 4}, {17, 3, 2, 4}, {18, 2, 2, 8},
            {21, 2, 2, 8}, {22, 1, 1, 8}, {24, 1, 1, 8}, {25, 0, 0, 0}};
        for (int[] one : due) {
            for (int what = 0; what < 3; what++) {
                check.due("line(" + one[0] + "," + what + ")", stage.line(one[0], what), one[what + 1]);
            }
        }
        stage.lower(1);
        check.due("dots of a row", stage.line(17, 2), 6);
        check.due("line(-1,0)", stage.line(-1, 0), INVALID);
        check.due("line(48,0)", stage.line(48, 0), INVALID);
        check.due("line(47,0)", stage.line(47, 0), 0);
        check.due("line(0,-1)", stage.line(0, -1), INVALID);
        check.due("line(0,3)", stage.line(0, 3), INVALID);
    }

    private static void promise20Shown() {
        PuppetTurns stage = new PuppetTurns();
        for (int puppet = 0; puppet < 9; puppet++) {
            stage.come(puppet - 15, puppet, 0, 0, 1);
        }
        stage.lift(5);
        int[] due = {5, 0, 1, 2, 3, 4, 6, 7};
        for (int index = 0; index < due.length; index++) {
            check.due("shown(7," + index + ")", stage.shown(7, index), due[index]);
        }
        check.due("shown(7,8)", stage.shown(7, 8), NONE);
        check.due("shown(8,6)", stage.shown(8, 6), 7);
        check.due("shown(8,7)", stage.shown(8, 7), 8);
        check.due("shown(0,1)", stage.shown(0, 1), NONE);
        check.due("shown(47,0)", stage.shown(47, 0), NONE);
        check.due("shown(0,greatest)", stage.shown(0, Integer.MAX_VALUE), NONE);
        check.due("shown(0,-1)", stage.shown(0, -1), INVALID);
        check.due("shown(-1,0)", stage.shown(-1, 0), INVALID);
        check.due("shown(48,0)", stage.shown(48, 0), INVALID);
        stage.setLimit(1);
        check.due("shown(7,1) by limit 1", stage.shown(7, 1), NONE);
    }

    private static void promise21Dot() {
        PuppetTurns stage = new PuppetTurns();
        stage.come(10, 10, 0, 0, 4);
        stage.come(12, 10, 0, 1, 7);
        stage.setRow(0, 3, 0b11100110);
        check.due("the first one's dot", stage.dot(12, 13), 4);
        check.due("through a hole", stage.dot(13, 13), 7);
        check.due("in front again", stage.dot(15, 13), 4);
        check.due("the other's alone", stage.dot(19, 13), 7);
        check.due("beside both", stage.dot(20, 13), 0);
        check.due("left of both", stage.dot(9, 13), 0);
        stage.lift(1);
        check.due("the order turned", stage.dot(12, 13), 7);
        stage.setLimit(1);
        check.due("hidden", stage.dot(10, 13), 0);
        check.due("dot(-1,0)", stage.dot(-1, 0), INVALID);
        check.due("dot(64,0)", stage.dot(64, 0), INVALID);
        check.due("dot(0,-1)", stage.dot(0, -1), INVALID);
        check.due("dot(0,48)", stage.dot(0, 48), INVALID);
    }

    private static void promise21DotAtTheEdges() {
        PuppetTurns stage = new PuppetTurns();
        stage.come(0, 0, 1, 7, 4);
        for (int x = -15; x <= 63; x++) {
            stage.move(0, x, 40);
            int columns = Math.max(Math.min(x + 8, 64) - Math.max(x, 0), 0);
            check.due("dots at x " + x, stage.line(47, 2), columns);
            check.due("column 0 at x " + x, stage.dot(0, 47), x >= -7 && x <= 0 ? 4 : 0);
            check.due("column 63 at x " + x, stage.dot(63, 47), x >= 56 ? 4 : 0);
        }
        for (int row = 0; row < 8; row++) {
            stage.setRow(0, row, 0);
        }
        stage.setRow(0, 7, 1);
        stage.move(0, -7, -15);
        check.due("behind picture 7 comes picture 0", stage.dot(0, 0), 4);
        check.due("all dots", stage.count(7), 1);
        stage.turn(0, 3);
        stage.move(0, 63, 47);
        check.due("turned over", stage.dot(63, 47), 4);
    }

    private static void promise22Clash() {
        PuppetTurns stage = new PuppetTurns();
        clash(stage, 0, NONE, NONE, NONE);
        stage.come(20, 20, 0, 0, 1);
        clash(stage, 0, NONE, NONE, NONE);
        stage.come(27, 27, 0, 1, 2);
        clash(stage, 1, 27, 27, 1);
        stage.come(13, 25, 0, 2, 3);
        clash(stage, 4, 20, 25, 2);
        stage.setRow(0, 5, 0);
        clash(stage, 3, 20, 26, 2);
        stage.setRow(1, 0, 0);
        clash(stage, 2, 20, 26, 2);
        stage.leave(0);
        clash(stage, 0, NONE, NONE, NONE);
        stage.move(2, 20, 27);
        clash(stage, 7, 27, 28, 2);
        stage.move(1, 56, 40);
        stage.move(2, 63, 47);
        clash(stage, 1, 63, 47, 2);
        stage.move(1, -7, 0);
        stage.move(2, -2, -7);
        clash(stage, 0, NONE, NONE, NONE);
        stage.setRow(1, 0, 1);
        clash(stage, 1, 0, 0, 2);
        check.due("clash(-1)", stage.clash(-1), INVALID);
        check.due("clash(4)", stage.clash(4), INVALID);
    }

    private static void promise22ClashOfHidden() {
        PuppetTurns stage = new PuppetTurns();
        stage.come(0, 0, 0, 0, 1);
        stage.come(0, 0, 0, 0, 1);
        stage.come(0, 4, 0, 0, 1);
        stage.setLimit(2);
        clash(stage, 64, 0, 0, 1);
        stage.lift(2);
        clash(stage, 64, 0, 0, 1);
        check.due("undo", stage.undo(), 4);
        stage.lower(0);
        clash(stage, 32, 0, 0, 1);
        stage.setLimit(1);
        clash(stage, 0, NONE, NONE, NONE);
        stage.move(0, -8, 0);
        stage.setLimit(8);
        clash(stage, 0, NONE, NONE, NONE);
    }

    private static void promise22FirstOther() {
        PuppetTurns stage = new PuppetTurns();
        stage.come(8, 8, 0, 0, 1);
        stage.come(8, 8, 0, 1, 1);
        stage.come(8, 8, 0, 2, 1);
        stage.lift(2);
        clash(stage, 64, 8, 8, 2);
        stage.setRow(2, 0, 0b01111111);
        clash(stage, 64, 8, 8, 1);
        stage.setRow(1, 0, 0b01111111);
        clash(stage, 63, 9, 8, 2);
    }

    private static void clash(PuppetTurns stage, int... due) {
        for (int what = 0; what < due.length; what++) {
            check.due("clash(" + what + ")", stage.clash(what), due[what]);
        }
    }
}

/** The boundary cases that 'What it is' and 'Terms' name, but for 'Plays'; each sentence stands beside its test. */
public final class EdgesOfTermsTest {
    private static final int INVALID = Edges.INVALID;
    private static final int NONE = Edges.NONE;
    private static final Check check = new Check();
    private static final Edges edges = new Edges(check);

    public static void main(String[] args) {
        the512thCall();
        columnsAndLines();
        pictures();
        highestBit();
        allAreSetAtFirst();
        atMost20Puppets();
        places();
        widthAndHeight();
        colorsAndFlips();
        lowShowsItsPicture();
        behindPicture7ComesPicture0();
        flipsOfTheWholePuppet();
        whoComesIsTheLastOne();
        asManyAsTheLimit();
        colorOfADot();
        hero();
        clashes();
        framesCountHidden();
        rule0();
        rule1();
        rule2();
        atMost5States();
        whatAStateIs();
        everyAction();
        whatIsNoAction();
        theSixthState();
        undoRestores();
        errorsChangeNothing();
        firstListedError();
        noneIsNoError();
        whoHasLeft();
        constants();
        forecastsChangeNothing();
        check.end();
    }

    /** [What it is] An object is used for at most 512 calls after it has been made; what later calls answer is free. */
    private static void the512thCall() {
        PuppetTurns stage = new PuppetTurns();
        for (int call = 1; call <= 511; call++) {
            check.due("call " + call, stage.setRow(0, 0, call % 256), call == 1 ? 255 : (call - 1) % 256);
        }
        check.due("call 512", stage.undo(), 4);
        stage = new PuppetTurns();
        stage.come(0, 0, 0, 0, 1);
        stage.come(0, 0, 0, 0, 1);
        stage.setLimit(1);
        for (int call = 4; call <= 511; call++) {
            check.due("frame as call " + call, stage.frame(), 1);
        }
        check.due("hidden frames as call 512", stage.puppet(1, 11), 508);
    }

    /** [Stage and pictures] The stage has 64 columns x and 48 lines y, both numbered from 0. */
    private static void columnsAndLines() {
        PuppetTurns stage = new PuppetTurns();
        for (int x = 0; x < 64; x += 8) {
            stage.come(x, 0, 1, 0, 1 + x / 8);
            stage.come(x, 32, 1, 0, 1 + x / 8);
        }
        for (int x = 0; x < 64; x++) {
            check.due("dot(" + x + ",0)", stage.dot(x, 0), 1 + x / 8);
            check.due("dot(" + x + ",47)", stage.dot(x, 47), 1 + x / 8);
        }
        check.due("all dots", stage.count(7), 64 * 32);
        check.due("dots of line 0", stage.line(0, 2), 64);
        check.due("dots of line 47", stage.line(47, 2), 64);
        check.due("dot(-1,0)", stage.dot(-1, 0), INVALID);
        check.due("dot(64,0)", stage.dot(64, 0), INVALID);
        check.due("dot(0,-1)", stage.dot(0, -1), INVALID);
        check.due("dot(0,48)", stage.dot(0, 48), INVALID);
        check.due("line(-1,0)", stage.line(-1, 0), INVALID);
        check.due("line(48,0)", stage.line(48, 0), INVALID);
        check.due("shown(-1,0)", stage.shown(-1, 0), INVALID);
        check.due("shown(48,0)", stage.shown(48, 0), INVALID);
    }

    /** [Stage and pictures] There are 8 pictures, numbered from 0, of 8 rows, numbered from 0, with 8 dots each; */
    private static void pictures() {
        PuppetTurns stage = new PuppetTurns();
        for (int row = 0; row < 64; row++) {
            check.due("row " + row, stage.setRow(row / 8, row % 8, 2 * row + 1), 255);
        }
        for (int row = 0; row < 64; row++) {
            check.due("row " + row + " is its own", stage.setRow(row / 8, row % 8, 255), 2 * row + 1);
        }
        check.due("picture 8", stage.setRow(8, 0, 0), INVALID);
        check.due("picture -1", stage.setRow(-1, 0, 0), INVALID);
        check.due("row 8", stage.setRow(0, 8, 0), INVALID);
        check.due("row -1", stage.setRow(1, -1, 0), INVALID);
    }

    /**
     * [Stage and pictures] a row is told as a number of 0 to 255, in which the highest bit (128) is the dot on the left
     */
    private static void highestBit() {
        PuppetTurns stage = new PuppetTurns();
        stage.come(20, 20, 0, 5, 3);
        for (int column = 0; column < 8; column++) {
            stage.setRow(5, 0, 128 >> column);
            for (int x = 0; x < 8; x++) {
                check.due("bit " + column + " at column " + x, stage.dot(20 + x, 20), x == column ? 3 : 0);
            }
        }
        stage.setRow(5, 0, 0);
        check.due("no dot by 0", stage.line(20, 2), 0);
        stage.setRow(5, 0, 255);
        check.due("all dots by 255", stage.line(20, 2), 8);
        check.due("256", stage.setRow(5, 0, 256), INVALID);
        check.due("-1", stage.setRow(5, 0, -1), INVALID);
    }

    /** [Stage and pictures] (all are 255 at first). */
    private static void allAreSetAtFirst() {
        PuppetTurns stage = new PuppetTurns();
        for (int picture = 0; picture < 8; picture++) {
            stage.come(8 * picture, 10, 0, picture, 1);
        }
        for (int y = 10; y < 18; y++) {
            check.due("dots of line " + y, stage.line(y, 2), 64);
        }
        for (int row = 0; row < 64; row++) {
            check.due("row " + row + " at first", stage.setRow(row / 8, row % 8, 0), 255);
        }
    }

    /**
     * [Puppets] There are at most 20 puppets, numbered from 0 in the order in which they came; their numbers never
     * change, and a puppet that has left does not come back.
     */
    private static void atMost20Puppets() {
        PuppetTurns stage = new PuppetTurns();
        for (int puppet = 0; puppet < 20; puppet++) {
            check.due("come " + puppet, stage.come(puppet, 2 * puppet, 0, 0, 1), puppet);
        }
        check.due("a twenty-first", stage.come(0, 0, 0, 0, 1), Edges.FULL);
        stage.leave(0);
        stage.leave(7);
        stage.leave(19);
        check.due("who has left does not come back", stage.come(0, 0, 0, 0, 1), Edges.FULL);
        check.due("puppets", stage.count(0), 17);
        check.due("have come", stage.count(1), 20);
        stage.lift(9);
        stage.lower(3);
        for (int puppet = 0; puppet < 20; puppet++) {
            boolean left = puppet == 0 || puppet == 7 || puppet == 19;
            check.due("x of " + puppet, stage.puppet(puppet, 0), left ? INVALID : puppet);
            check.due("y of " + puppet, stage.puppet(puppet, 1), left ? INVALID : 2 * puppet);
        }
        stage = new PuppetTurns();
        stage.come(0, 0, 0, 0, 1);
        stage.leave(0);
        check.due("the next one has the next number", stage.come(0, 0, 0, 0, 1), 1);
        check.due("the one before stays away", stage.puppet(0, 0), INVALID);
    }

    /** [Puppets] A puppet has a place: the column and the line of its upper left dot, -15 to 63 and -15 to 47. */
    private static void places() {
        int[][] due = {{-15, -15}, {-15, 47}, {63, -15}, {63, 47}, {0, 0}, {-7, -7}};
        for (int[] place : due) {
            PuppetTurns stage = new PuppetTurns();
            check.due("come at " + place[0] + "," + place[1], stage.come(place[0], place[1], 0, 0, 6), 0);
            check.due("its x", stage.puppet(0, 0), place[0]);
            check.due("its y", stage.puppet(0, 1), place[1]);
        }
        PuppetTurns stage = new PuppetTurns();
        stage.setRow(0, 0, 128);
        for (int row = 1; row < 8; row++) {
            stage.setRow(0, row, 0);
        }
        stage.come(63, 47, 0, 0, 6);
        check.due("the upper left dot", stage.dot(63, 47), 6);
        check.due("is the only one", stage.count(7), 1);
        stage.move(0, 0, 0);
        check.due("the upper left dot of the stage", stage.dot(0, 0), 6);
        stage.move(0, -1, 0);
        check.due("left of the stage", stage.count(7), 0);
        stage.move(0, 0, -1);
        check.due("above the stage", stage.count(7), 0);
        int[][] wrong = {{-16, 0}, {64, 0}, {0, -16}, {0, 48}};
        for (int[] place : wrong) {
            check.due("come wrong", stage.come(place[0], place[1], 0, 0, 6), INVALID);
            check.due("move wrong", stage.move(0, place[0], place[1]), INVALID);
        }
    }

    /** [Puppets] It is 8 columns wide, and low (8 lines high) or tall (16 lines high). */
    private static void widthAndHeight() {
        for (int tall = 0; tall <= 1; tall++) {
            int height = tall == 1 ? 16 : 8;
            PuppetTurns stage = new PuppetTurns();
            stage.come(30, 20, tall, 7, 2);
            check.due("dots", stage.count(7), 8 * height);
            check.due("left of it", stage.dot(29, 20), 0);
            check.due("its left", stage.dot(30, 20), 2);
            check.due("its right", stage.dot(37, 20), 2);
            check.due("right of it", stage.dot(38, 20), 0);
            check.due("above it", stage.line(19, 0), 0);
            check.due("its top", stage.line(20, 0), 1);
            check.due("its bottom", stage.line(20 + height - 1, 0), 1);
            check.due("below it", stage.line(20 + height, 0), 0);
            check.due("below it no dots", stage.line(20 + height, 2), 0);
            check.due("lines", stage.puppet(0, 7), height);
            for (int y = -15; y <= 47; y++) {
                int lines = Math.max(Math.min(y + height, 48) - Math.max(y, 0), 0);
                check.due("lines at y " + y, stage.move(0, 30, y), lines);
                check.due("dots at y " + y, stage.count(7), 8 * lines);
            }
            for (int x = -15; x <= 63; x++) {
                stage.move(0, x, 0);
                check.due("dots at x " + x, stage.line(0, 2), Math.max(Math.min(x + 8, 64) - Math.max(x, 0), 0));
            }
        }
    }

    /**
     * [Puppets] It has a picture, a color (1 to 9), and flips (0 none, 1 left and right are exchanged, 2 top and bottom
     * are exchanged, 3 both).
     */
    private static void colorsAndFlips() {
        PuppetTurns stage = new PuppetTurns();
        for (int color = 1; color <= 9; color++) {
            check.due("color " + color, stage.come(0, 0, 0, 0, color), color - 1);
            check.due("its color", stage.puppet(color - 1, 4), color);
            check.due("its flips", stage.puppet(color - 1, 5), 0);
        }
        check.due("color 0", stage.come(0, 0, 0, 0, 0), INVALID);
        check.due("color 10", stage.come(0, 0, 0, 0, 10), INVALID);
        stage = ofOneDot();
        stage.come(10, 10, 0, 2, 3);
        int[][] due = {{10, 11}, {17, 11}, {10, 16}, {17, 16}};
        for (int flips = 0; flips <= 3; flips++) {
            check.due("turn to " + flips, stage.turn(0, flips), Math.max(flips - 1, 0));
            check.due("dot of flips " + flips, stage.dot(due[flips][0], due[flips][1]), 3);
            check.due("dots of flips " + flips, stage.count(7), 1);
        }
        check.due("flips 4", stage.turn(0, 4), INVALID);
        check.due("flips -1", stage.turn(0, -1), INVALID);
    }

    /** Picture 2 has one dot, in row 1 on the left; all other rows of the pictures are empty. */
    private static PuppetTurns ofOneDot() {
        PuppetTurns stage = new PuppetTurns();
        for (int row = 0; row < 64; row++) {
            stage.setRow(row / 8, row % 8, row == 17 ? 128 : 0);
        }
        return stage;
    }

    /** [Puppets] A low puppet shows its picture. */
    private static void lowShowsItsPicture() {
        for (int picture = 0; picture <= 7; picture++) {
            PuppetTurns stage = ofOneDot();
            stage.come(10, 10, 0, picture, 3);
            check.due("dots of picture " + picture, stage.count(7), picture == 2 ? 1 : 0);
        }
    }

    /**
     * [Puppets] A tall one shows its picture in the upper half and the next picture (behind picture 7 comes picture 0)
     * in the lower one.
     */
    private static void behindPicture7ComesPicture0() {
        for (int picture = 0; picture <= 7; picture++) {
            PuppetTurns stage = new PuppetTurns();
            for (int other = 0; other <= 7; other++) {
                stage.setRow(other, 0, other);
                stage.setRow(other, 7, 128 + other);
            }
            stage.come(0, 0, 1, picture, 1);
            int next = picture == 7 ? 0 : picture + 1;
            check.due("first row of " + picture, dots(stage, 0, 0), picture);
            check.due("last row of " + picture, dots(stage, 0, 7), 128 + picture);
            check.due("first row behind " + picture, dots(stage, 0, 8), next);
            check.due("last row behind " + picture, dots(stage, 0, 15), 128 + next);
        }
    }

    /** The dots of a line from a column on, told as a row of a picture is. */
    private static int dots(PuppetTurns stage, int x, int y) {
        int result = 0;
        for (int column = 0; column < 8; column++) {
            result = 2 * result + (stage.dot(x + column, y) != 0 ? 1 : 0);
        }
        return result;
    }

    /**
     * [Puppets] Flips exchange the dots of the whole puppet (so of a tall one the halves change places as well, if top
     * and bottom are exchanged).
     */
    private static void flipsOfTheWholePuppet() {
        int[][] due = {{0b10000001, 0b11000000, 0b10100000, 0b10010000}, {0b10000001, 0b00000011, 0b00000101, 0b00001001},
            {0b10010000, 0b10100000, 0b11000000, 0b10000001}, {0b00001001, 0b00000101, 0b00000011, 0b10000001}};
        int[][] low = {{0b10000001, 0b11000000}, {0b10000001, 0b00000011}, {0b11000000, 0b10000001},
            {0b00000011, 0b10000001}};
        PuppetTurns stage = new PuppetTurns();
        stage.setRow(7, 0, 0b10000001);
        stage.setRow(7, 7, 0b11000000);
        stage.setRow(0, 0, 0b10100000);
        stage.setRow(0, 7, 0b10010000);
        stage.come(0, 20, 1, 7, 1);
        stage.come(20, 20, 0, 7, 1);
        for (int flips = 0; flips <= 3; flips++) {
            stage.turn(0, flips);
            stage.turn(1, flips);
            check.due("top, flips " + flips, dots(stage, 0, 20), due[flips][0]);
            check.due("bottom of the upper half, flips " + flips, dots(stage, 0, 27), due[flips][1]);
            check.due("top of the lower half, flips " + flips, dots(stage, 0, 28), due[flips][2]);
            check.due("bottom, flips " + flips, dots(stage, 0, 35), due[flips][3]);
            check.due("top of a low one, flips " + flips, dots(stage, 20, 20), low[flips][0]);
            check.due("bottom of a low one, flips " + flips, dots(stage, 20, 27), low[flips][1]);
        }
    }

    /** [Order and lines] A puppet that comes is the last one. */
    private static void whoComesIsTheLastOne() {
        PuppetTurns stage = new PuppetTurns();
        for (int puppet = 0; puppet < 20; puppet++) {
            stage.come(0, 0, 0, 0, 1);
            check.due("position of " + puppet, stage.puppet(puppet, 6), puppet);
        }
        stage = Edges.crowd(3);
        stage.leave(0);
        stage.lower(1);
        stage.come(0, 0, 0, 0, 1);
        edges.order("behind a leave", stage, 2, 1, 3);
        stage.leave(1);
        stage.leave(2);
        stage.leave(3);
        stage.come(0, 0, 0, 0, 1);
        edges.order("on an empty stage", stage, 4);
    }

    /**
     * [Order and lines] On each line, of all puppets that stand on it (that have the line between their top and their
     * bottom, be it left or right of the stage, be their dots set or not), the first ones by the order are shown, as
     * many as the limit (1 to 8; at first 8); the others are hidden on this line.
     */
    private static void asManyAsTheLimit() {
        PuppetTurns stage = Edges.crowd(8);
        check.due("the limit at first", stage.count(2), 8);
        check.due("8 of 8 are shown", stage.line(0, 1), 8);
        check.due("none is hidden", stage.count(6), 0);
        stage.come(0, 7, 0, 0, 1);
        check.due("8 of 9 are shown", stage.line(7, 1), 8);
        check.due("of 9", stage.line(7, 0), 9);
        check.due("the last one is hidden", stage.puppet(8, 8), 1);
        check.due("and no other", stage.count(6), 1);
        for (int limit = 1; limit <= 8; limit++) {
            stage.setLimit(limit);
            check.due("shown by limit " + limit, stage.line(7, 1), limit);
            check.due("the last one shown", stage.shown(7, limit - 1), limit - 1);
            check.due("none behind", stage.shown(7, limit), NONE);
            check.due("hidden by limit " + limit, stage.count(6), 9 - limit);
            check.due("the first one hidden", stage.puppet(limit, 8), limit == 8 ? 1 : 8);
        }
        check.due("limit 0", stage.setLimit(0), INVALID);
        check.due("limit 9", stage.setLimit(9), INVALID);
        besideTheStage();
    }

    private static void besideTheStage() {
        PuppetTurns stage = new PuppetTurns();
        stage.setLimit(1);
        for (int row = 0; row < 8; row++) {
            stage.setRow(1, row, 0);
        }
        stage.come(-15, 10, 0, 0, 1);
        stage.come(20, 10, 0, 0, 2);
        check.due("left of the stage it stands", stage.line(10, 0), 2);
        check.due("and is shown", stage.shown(10, 0), 0);
        check.due("and hides", stage.dot(20, 10), 0);
        stage.move(0, 63, 10);
        check.due("at the right edge too", stage.dot(20, 10), 0);
        stage.move(0, -8, 3);
        check.due("its bottom is on the line", stage.dot(20, 10), 0);
        check.due("below its bottom", stage.dot(20, 11), 2);
        stage.move(0, -8, 17);
        check.due("above its top", stage.dot(20, 16), 2);
        check.due("its top is on the line", stage.dot(20, 17), 0);
        stage.come(20, 30, 0, 1, 3);
        stage.come(20, 30, 0, 0, 4);
        check.due("without dots it is shown", stage.shown(30, 0), 2);
        check.due("and hides", stage.dot(20, 30), 0);
        stage.lift(3);
        check.due("behind another it is hidden", stage.puppet(2, 8), 8);
    }

    /**
     * [Order and lines] A dot of the stage has the color of the first puppet, by the order, that is shown on its line
     * and has a dot set there, or 0 if there is none.
     */
    private static void colorOfADot() {
        PuppetTurns stage = new PuppetTurns();
        check.due("an empty stage", stage.dot(0, 0), 0);
        stage.setRow(1, 0, 0b01111111);
        stage.setRow(2, 0, 0b00111111);
        stage.come(0, 0, 0, 2, 2);
        stage.come(0, 0, 0, 1, 1);
        stage.come(0, 0, 0, 0, 9);
        check.due("the third one's", stage.dot(0, 0), 9);
        check.due("the second one's", stage.dot(1, 0), 1);
        check.due("the first one's", stage.dot(2, 0), 2);
        stage.setLimit(2);
        check.due("who is hidden has none", stage.dot(0, 0), 0);
        check.due("dots that are not 0", stage.line(0, 2), 7);
        stage.lift(2);
        check.due("by the order", stage.dot(2, 0), 9);
        check.due("beside them", stage.dot(8, 0), 0);
    }

    /** [Clashes] The hero is the puppet with the smallest number that is there. */
    private static void hero() {
        PuppetTurns stage = new PuppetTurns();
        check.due("without puppets", stage.count(8), NONE);
        stage.come(0, 0, 0, 0, 1);
        check.due("alone", stage.count(8), 0);
        stage.come(0, 0, 0, 0, 1);
        stage.come(0, 0, 0, 0, 1);
        stage.lower(0);
        check.due("also as the last one", stage.count(8), 0);
        stage.leave(0);
        stage.lift(2);
        check.due("the smallest that is there", stage.count(8), 1);
        stage.leave(1);
        check.due("the only one", stage.count(8), 2);
        stage.leave(2);
        check.due("all have left", stage.count(8), NONE);
        stage.undo();
        check.due("it is there again", stage.count(8), 2);
        stage = Edges.crowd(20);
        for (int puppet = 0; puppet < 19; puppet++) {
            stage.leave(puppet);
        }
        check.due("the twentieth", stage.count(8), 19);
    }

    /**
     * [Clashes] There is a clash at a dot of the stage if the hero and another puppet are both shown on its line and
     * both have a dot set there.
     */
    private static void clashes() {
        PuppetTurns stage = new PuppetTurns();
        stage.come(0, 0, 0, 0, 1);
        check.due("the hero alone", stage.clash(0), 0);
        stage.come(8, 0, 0, 1, 1);
        check.due("side by side", stage.clash(0), 0);
        stage.move(1, 7, 7);
        check.due("in a corner", stage.clash(0), 1);
        stage.move(1, 7, 8);
        check.due("one above the other", stage.clash(0), 0);
        stage.come(7, 8, 0, 0, 1);
        check.due("others without the hero", stage.clash(0), 0);
        stage.move(0, -8, 8);
        stage.move(1, -8, 8);
        check.due("left of the stage", stage.clash(0), 0);
        stage.move(0, 5, -8);
        stage.move(1, 5, -8);
        check.due("above the stage", stage.clash(0), 0);
        stage.move(0, 63, 47);
        stage.move(1, 63, 47);
        check.due("in the last dot", stage.clash(0), 1);
        stage.setRow(1, 0, 0b01111111);
        check.due("another without a dot there", stage.clash(0), 0);
        stage.setRow(1, 0, 255);
        stage.setRow(0, 0, 0b01111111);
        check.due("the hero without a dot there", stage.clash(0), 0);
        stage.setRow(0, 0, 255);
        stage.setLimit(1);
        check.due("another is hidden", stage.clash(0), 0);
        stage.lower(0);
        check.due("the hero is hidden", stage.clash(0), 0);
        stage.setLimit(2);
        check.due("both are shown", stage.clash(0), 1);
        stage.move(2, 63, 47);
        check.due("two others are one clash, by limit 2 one of them", stage.clash(0), 0);
        stage.setLimit(3);
        check.due("two others are one clash", stage.clash(0), 1);
    }

    /**
     * [Frames and turns] A frame counts, for each puppet, whether it is hidden on any line of the stage: then it has
     * been hidden in one frame more, and for one frame more on end; otherwise it has been hidden on end for 0 frames.
     */
    private static void framesCountHidden() {
        PuppetTurns stage = new PuppetTurns();
        stage.setLimit(1);
        stage.come(0, -15, 1, 0, 1);
        stage.come(0, -15, 0, 0, 1);
        check.due("above the stage nobody is hidden", stage.frame(), 0);
        hiddenFrames(stage, 1, 0, 0, 0);
        stage.move(1, 0, -7);
        check.due("hidden on line 0 alone", stage.frame(), 1);
        hiddenFrames(stage, 1, 1, 1, 1);
        hiddenFrames(stage, 0, 0, 0, 0);
        stage.move(0, 0, 32);
        stage.move(1, 0, 47);
        check.due("hidden on line 47 alone", stage.frame(), 1);
        hiddenFrames(stage, 1, 2, 2, 2);
        stage.move(0, 0, 31);
        check.due("no longer hidden", stage.frame(), 0);
        hiddenFrames(stage, 1, 2, 0, 2);
        stage.move(0, 0, 40);
        stage.frame();
        hiddenFrames(stage, 1, 3, 1, 2);
        stage.frame();
        stage.frame();
        hiddenFrames(stage, 1, 5, 3, 3);
    }

    private static void hiddenFrames(PuppetTurns stage, int puppet, int frames, int onEnd, int most) {
        check.due("hidden frames of " + puppet, stage.puppet(puppet, 9), frames);
        check.due("on end of " + puppet, stage.puppet(puppet, 10), onEnd);
        check.due("most on end of " + puppet, stage.puppet(puppet, 11), most);
    }

    /** [Frames and turns] Then the order takes its turn by the rule (at first 0): 0 nothing; */
    private static void rule0() {
        PuppetTurns stage = Edges.crowd(4);
        stage.setLimit(2);
        check.due("the rule at first", stage.count(3), 0);
        stage.frame();
        edges.order("by the rule at first", stage, 0, 1, 2, 3);
        stage.setRule(2, 3);
        stage.setRule(0, 3);
        stage.frame();
        edges.order("by rule 0", stage, 0, 1, 2, 3);
    }

    /**
     * [Frames and turns] 1 the first puppet becomes the last one, as many times as the step (1 to 19; at first 1);
     */
    private static void rule1() {
        check.due("the step at first", new PuppetTurns().count(4), 1);
        for (int puppets = 0; puppets <= 20; puppets++) {
            for (int step = 1; step <= 19; step++) {
                PuppetTurns stage = Edges.crowd(puppets);
                stage.setRule(1, step);
                check.due("frame", stage.frame(), Math.max(puppets - 8, 0));
                for (int puppet = 0; puppet < puppets; puppet++) {
                    check.due("position of " + puppet + " of " + puppets + " by step " + step, stage.puppet(puppet, 6),
                        (puppet + 19 * puppets - step) % puppets);
                }
            }
        }
        check.due("step 0", new PuppetTurns().setRule(1, 0), INVALID);
        check.due("step 20", new PuppetTurns().setRule(1, 20), INVALID);
    }

    /**
     * [Frames and turns] 2 the puppets that were hidden on any line come first, and both these and the others keep
     * their order among themselves.
     */
    private static void rule2() {
        PuppetTurns stage = new PuppetTurns();
        stage.setRule(2, 1);
        check.due("without puppets", stage.frame(), 0);
        stage.come(0, 0, 0, 0, 1);
        stage.come(0, 8, 0, 0, 1);
        stage.come(0, 16, 0, 0, 1);
        stage.setLimit(1);
        check.due("nobody is hidden", stage.frame(), 0);
        edges.order("nobody is hidden", stage, 0, 1, 2);
        stage.come(0, 7, 0, 0, 1);
        stage.come(0, 24, 0, 0, 1);
        stage.come(0, 31, 0, 0, 1);
        check.due("two are hidden", stage.frame(), 2);
        edges.order("two are hidden", stage, 3, 5, 0, 1, 2, 4);
        check.due("then three", stage.frame(), 3);
        edges.order("then three", stage, 0, 1, 4, 3, 5, 2);
        stage = Edges.crowd(20);
        stage.setRule(2, 19);
        stage.setLimit(1);
        check.due("all but the first one", stage.frame(), 19);
        check.due("who was the first one is the last one", stage.puppet(0, 6), 19);
        check.due("who was the last one is next to it", stage.puppet(19, 6), 18);
    }

    /** [Undo] A history of at most 5 states is kept; */
    private static void atMost5States() {
        for (int actions = 0; actions <= 8; actions++) {
            PuppetTurns stage = new PuppetTurns();
            for (int action = 0; action < actions; action++) {
                stage.setLimit(1 + action % 8);
            }
            edges.states(actions + " actions", stage, Math.min(actions, 5));
        }
    }

    /** [Undo] a state is everything but the text, the failure and the history. */
    private static void whatAStateIs() {
        PuppetTurns stage = Edges.busy();
        stage.setRow(1, 2, 3);
        stage.frame();
        stage.leave(2);
        stage.come(1, 1, 1, 1, 1);
        Check.run(stage, "t3,1;m0,7,7;l5;");
        Check.run(stage, "x");
        for (int left = 4; left >= 0; left--) {
            check.due("undo()", stage.undo(), left);
        }
        check.due("the text stays", stage.clearText(), 1);
        edges.failure("stays", stage, 1, 0, 1, 0, NONE);
        PuppetTurns before = Edges.busy();
        for (int puppet = 0; puppet <= 4; puppet++) {
            for (int what = 0; what < 12; what++) {
                check.due("puppet(" + puppet + "," + what + ")", stage.puppet(puppet, what), before.puppet(puppet, what));
            }
        }
        for (int what = 0; what < 9; what++) {
            check.due("count(" + what + ")", stage.count(what), before.count(what));
        }
        check.due("a row", stage.setRow(1, 2, 0), 77);
        check.due("the history does not come back", stage.undo(), 0);
        check.due("no state is left", stage.undo(), Edges.STATE);
    }

    /**
     * [Undo] Every successful call of a method that is called an action records the state before it (also if nothing
     * changes by it);
     */
    private static void everyAction() {
        for (int action = 0; action < 11; action++) {
            PuppetTurns stage = new PuppetTurns();
            stage.come(5, 6, 0, 0, 1);
            check.due("action " + action + " that changes nothing", act(stage, action), action == 0 ? 255 : unchanged(action));
            check.due("states behind action " + action, stage.count(9), 2);
            check.due("undo of action " + action, stage.undo(), 1);
            check.due("x", stage.puppet(0, 0), 5);
            check.due("puppets", stage.count(1), 1);
            check.due("frames", stage.count(5), 0);
            check.due("undo of come", stage.undo(), 0);
            check.due("puppets", stage.count(0), 0);
        }
    }

    /** Of these only come, leave and frame can't leave all as it is. */
    private static int act(PuppetTurns stage, int action) {
        switch (action) {
            case 0:
                return stage.setRow(7, 7, 255);
            case 1:
                return stage.come(0, 0, 0, 0, 1);
            case 2:
                return stage.leave(0);
            case 3:
                return stage.move(0, 5, 6);
            case 4:
                return stage.turn(0, 0);
            case 5:
                return stage.lift(0);
            case 6:
                return stage.lower(0);
            case 7:
                return stage.setLimit(8);
            case 8:
                return stage.setRule(0, 1);
            case 9:
                return stage.frame();
            default:
                return stage.run();
        }
    }

    private static int unchanged(int action) {
        return action == 1 ? 1 : action == 3 || action == 7 ? 8 : 0;
    }

    /** [Undo] a method that is called an action */
    private static void whatIsNoAction() {
        PuppetTurns stage = Edges.crowd(2);
        stage.undo();
        stage.append('x');
        stage.run();
        stage.clearText();
        stage.failure(0);
        stage.count(0);
        stage.puppet(0, 0);
        stage.line(0, 0);
        stage.shown(0, 0);
        stage.dot(0, 0);
        stage.clash(0);
        stage.hiddenIn(0, 1);
        stage.allShownIn();
        stage.bestStep(0);
        stage.worstLine();
        edges.states("no action", stage, 1);
    }

    /** [Undo] when a sixth one is recorded, the oldest one is dropped. */
    private static void theSixthState() {
        for (int actions = 5; actions <= 13; actions++) {
            PuppetTurns stage = new PuppetTurns();
            for (int action = 1; action <= actions; action++) {
                stage.setRule(1, action);
            }
            for (int left = 4; left >= 0; left--) {
                check.due("undo()", stage.undo(), left);
                check.due("step", stage.count(4), Math.max(actions - 5 + left, 1));
            }
            check.due("rule of the oldest state kept", stage.count(3), actions == 5 ? 0 : 1);
            check.due("undo() of no state", stage.undo(), Edges.STATE);
        }
    }

    /** [Undo] undo() removes the latest state from the history and restores it. */
    private static void undoRestores() {
        PuppetTurns stage = new PuppetTurns();
        for (int round = 0; round < 12; round++) {
            stage.setRule(1, 5);
            stage.setRule(1, 6);
            check.due("undo()", stage.undo(), 1);
            check.due("step", stage.count(4), 5);
            stage.setRule(1, 7);
            check.due("undo()", stage.undo(), 1);
            check.due("step", stage.count(4), 5);
            check.due("undo()", stage.undo(), 0);
            check.due("step", stage.count(4), 1);
        }
        check.due("removed", stage.undo(), Edges.STATE);
    }

    /** [Errors] A call that returns an error code changes nothing (a failure of a play is kept, however). */
    private static void errorsChangeNothing() {
        edges.changesNothing("undo() of nothing", Edges.STATE, PuppetTurns::new, PuppetTurns::undo);
        edges.changesNothing("a twenty-first puppet", Edges.FULL, () -> Edges.crowd(20),
            stage -> stage.come(0, 0, 0, 0, 1));
        edges.changesNothing("a frame too many", Edges.FULL, Edges::ofAllFrames, PuppetTurns::frame);
        edges.changesNothing("a character too many", Edges.FULL, EdgesOfTermsTest::withFullText,
            stage -> stage.append(';'));
        edges.refused("setRow", stage -> stage.setRow(8, 0, 0));
        PuppetTurns stage = Edges.busy();
        Check.run(stage, "(l3;l9;)");
        edges.failure("is kept", stage, 2, 4, 2, 1, INVALID);
        check.due("the limit is not", stage.count(2), 1);
    }

    private static PuppetTurns withFullText() {
        PuppetTurns stage = Edges.busy();
        Check.text(stage, "l2;".repeat(33) + "f");
        return stage;
    }

    /** [Errors] If several error conditions apply, the method returns the one that its description lists first; */
    private static void firstListedError() {
        edges.changesNothing("come: wrong and full", INVALID, () -> Edges.crowd(20), stage -> stage.come(64, 0, 0, 0, 1));
        edges.changesNothing("append: wrong and full", INVALID, EdgesOfTermsTest::withFullText, stage -> stage.append(256));
        check.due("come: full", Edges.crowd(20).come(63, 0, 0, 0, 1), Edges.FULL);
        check.due("append: full", withFullText().append(255), Edges.FULL);
    }

    /** [Errors] NONE is no error, and it is returned only if no error condition applies. */
    private static void noneIsNoError() {
        PuppetTurns stage = new PuppetTurns();
        check.due("failure(0)", stage.failure(0), NONE);
        check.due("failure(5)", stage.failure(5), INVALID);
        check.due("failure(-1)", stage.failure(-1), INVALID);
        check.due("count(8)", stage.count(8), NONE);
        check.due("count(11)", stage.count(11), INVALID);
        check.due("shown(0,0)", stage.shown(0, 0), NONE);
        check.due("shown(48,0)", stage.shown(48, 0), INVALID);
        check.due("shown(0,-1)", stage.shown(0, -1), INVALID);
        check.due("clash(3)", stage.clash(3), NONE);
        check.due("clash(4)", stage.clash(4), INVALID);
        check.due("clash(-1)", stage.clash(-1), INVALID);
        check.due("worstLine()", stage.worstLine(), NONE);
    }

    /** [Errors] A puppet that has left does not exist. */
    private static void whoHasLeft() {
        edges.changesNothing("leave", INVALID, Edges::busy, stage -> stage.leave(1));
        edges.changesNothing("move", INVALID, Edges::busy, stage -> stage.move(1, 0, 0));
        edges.changesNothing("turn", INVALID, Edges::busy, stage -> stage.turn(1, 0));
        edges.changesNothing("lift", INVALID, Edges::busy, stage -> stage.lift(1));
        edges.changesNothing("lower", INVALID, Edges::busy, stage -> stage.lower(1));
        for (int what = 0; what < 12; what++) {
            check.due("puppet(1," + what + ")", Edges.busy().puppet(1, what), INVALID);
        }
        check.due("hiddenIn", Edges.busy().hiddenIn(1, 1), INVALID);
        PuppetTurns stage = Edges.crowd(3);
        stage.setLimit(1);
        stage.leave(0);
        check.due("it does not stand", stage.line(0, 0), 2);
        check.due("it hides nobody", stage.puppet(1, 8), 0);
        check.due("it is not shown", stage.shown(0, 0), 1);
        check.due("it is no hero", stage.count(8), 1);
        check.due("it is not counted as hidden", stage.frame(), 1);
        check.due("it is not waited for", stage.allShownIn(), NONE);
        stage.setRule(1, 1);
        check.due("it takes no turn", stage.allShownIn(), 2);
    }

    /**
     * [Errors] The constants: `INVALID_ARGUMENT = -101`: An argument is out of range, or names something that does not
     * exist. `ILLEGAL_STATE = -102`: The call is not possible in the present state. `CAPACITY_EXCEEDED = -103`: There is
     * no room. `NONE = -109`: There is no such value.
     */
    private static void constants() {
        check.due("out of range", new PuppetTurns().setLimit(9), -101);
        check.due("does not exist", new PuppetTurns().lift(0), -101);
        check.due("not possible", new PuppetTurns().undo(), -102);
        check.due("no room", Edges.crowd(20).come(0, 0, 0, 0, 1), -103);
        check.due("no such value", new PuppetTurns().count(8), -109);
        int[] names = {PuppetTurns.INVALID_ARGUMENT, PuppetTurns.ILLEGAL_STATE, PuppetTurns.CAPACITY_EXCEEDED,
            PuppetTurns.NONE};
        int[] due = {-101, -102, -103, -109};
        for (int constant = 0; constant < due.length; constant++) {
            check.due("constant " + constant, names[constant], due[constant]);
        }
    }

    /**
     * [Errors] Ahead of the calls `hiddenIn`, `allShownIn`, `bestStep`, `worstLine` the interface says: ---- what could
     * be, which changes nothing.
     */
    private static void forecastsChangeNothing() {
        edges.changesNothing("hiddenIn", 30, Edges::busy, stage -> stage.hiddenIn(2, 60));
        edges.changesNothing("allShownIn", 2, Edges::busy, PuppetTurns::allShownIn);
        edges.changesNothing("bestStep(0)", 1, Edges::busy, stage -> stage.bestStep(0));
        edges.changesNothing("bestStep(1)", 13, Edges::busy, stage -> stage.bestStep(1));
        edges.changesNothing("worstLine", 12, Edges::busy, PuppetTurns::worstLine);
        edges.changesNothing("hiddenIn of 20", 36, EdgesOfTermsTest::twentyByTurns, stage -> stage.hiddenIn(11, 60));
        edges.changesNothing("allShownIn of 20", 3, EdgesOfTermsTest::twentyByTurns, PuppetTurns::allShownIn);
    }

    private static PuppetTurns twentyByTurns() {
        PuppetTurns stage = Edges.crowd(20);
        stage.setRule(2, 3);
        return stage;
    }
}

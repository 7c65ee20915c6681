/** All promises: runs of calls chosen by a fixed row of numbers, each answer compared with Model's. */
public final class ModelTest {
    private static final int RUNS = 260;
    private static final int CALLS = 512;
    private static final int CALLS_BESIDE_TEXT = 7;
    private static final Check check = new Check();

    private final PuppetTurns stage = new PuppetTurns();
    private final Model model = new Model();
    private final StringBuilder told = new StringBuilder();
    private final int lines;
    private final int crowd;
    private long seed;

    private ModelTest(int run) {
        seed = run * 7919L + 17;
        lines = 2 + below(46);
        crowd = below(4);
    }

    public static void main(String[] args) {
        for (int run = 0; run < RUNS && !check.failed(); run++) {
            new ModelTest(run).play();
        }
        check.end();
    }

    private void play() {
        for (int call = 0; call < CALLS; ) {
            int before = told.length();
            call += step(CALLS - call);
            if (check.failed()) {
                System.out.println("the run before it:" + told.substring(0, before));
                return;
            }
        }
    }

    /** The upper bits of a linear congruential row. */
    private int below(int bound) {
        seed = seed * 6364136223846793005L + 1442695040888963407L;
        return (int) ((seed >>> 33) % bound);
    }

    /** Mostly within the bounds, at times at or beyond one of them. */
    private int about(int least, int most) {
        switch (below(24)) {
            case 0:
                return least - 1;
            case 1:
                return most + 1;
            case 2:
                return least;
            case 3:
                return most;
            default:
                return least + below(most - least + 1);
        }
    }

    private int aPuppet() {
        int come = model.count(1);
        return come == 0 ? about(0, 1) : about(0, come - 1);
    }

    private int aLine() {
        return below(3) == 0 ? about(-15, 47) : below(lines);
    }

    private void compare(String call, int got, int due) {
        told.append("\n  ").append(call).append(" -> ").append(got);
        check.due(call, got, due);
    }

    private int step(int callsLeft) {
        int kind = below(100);
        if (kind < 12 + crowd * 6 && model.count(1) < 3 + crowd * 6) {
            come();
        } else if (kind < 40) {
            act();
        } else if (kind < 46 && callsLeft > CALLS_BESIDE_TEXT) {
            return text(callsLeft - CALLS_BESIDE_TEXT);
        } else if (kind < 50) {
            compare("undo()", stage.undo(), model.undo());
        } else if (kind < 90) {
            look();
        } else {
            foresee();
        }
        return 1;
    }

    private void come() {
        int x = below(3) == 0 ? about(-15, 63) : 20 + below(12);
        int y = aLine();
        int tall = about(0, 1);
        int picture = about(0, 7);
        int color = about(1, 9);
        compare("come(" + x + "," + y + "," + tall + "," + picture + "," + color + ")",
            stage.come(x, y, tall, picture, color), model.come(x, y, tall, picture, color));
    }

    private void act() {
        int a = aPuppet();
        switch (below(11)) {
            case 0:
            case 1: {
                int picture = about(0, 7);
                int row = about(0, 7);
                int dots = about(0, 255);
                compare("setRow(" + picture + "," + row + "," + dots + ")",
                    stage.setRow(picture, row, dots), model.setRow(picture, row, dots));
                break;
            }
            case 2:
                if (below(3) == 0) {
                    compare("leave(" + a + ")", stage.leave(a), model.leave(a));
                }
                break;
            case 3: {
                int x = about(-15, 63);
                int y = aLine();
                compare("move(" + a + "," + x + "," + y + ")", stage.move(a, x, y), model.move(a, x, y));
                break;
            }
            case 4: {
                int flips = about(0, 3);
                compare("turn(" + a + "," + flips + ")", stage.turn(a, flips), model.turn(a, flips));
                break;
            }
            case 5:
                compare("lift(" + a + ")", stage.lift(a), model.lift(a));
                break;
            case 6:
                compare("lower(" + a + ")", stage.lower(a), model.lower(a));
                break;
            case 7: {
                int limit = below(2) == 0 ? about(1, 8) : 1 + below(3);
                compare("setLimit(" + limit + ")", stage.setLimit(limit), model.setLimit(limit));
                break;
            }
            case 8: {
                int rule = about(0, 2);
                int step = about(1, 19);
                compare("setRule(" + rule + "," + step + ")", stage.setRule(rule, step), model.setRule(rule, step));
                break;
            }
            default:
                compare("frame()", stage.frame(), model.frame());
                break;
        }
    }

    private int text(int mostCharacters) {
        String text = aPlay(0, 30 + below(60));
        if (below(3) == 0) {
            text = spoilt(text);
        }
        text = text.substring(0, Math.min(text.length(), mostCharacters));
        compare("clearText()", stage.clearText(), model.clearText());
        for (int i = 0; i < text.length(); i++) {
            char c = text.charAt(i);
            compare("append(" + c + ")", stage.append(c), model.append(c));
        }
        compare("run()", stage.run(), model.run());
        for (int what = 0; what < 5; what++) {
            compare("failure(" + what + ")", stage.failure(what), model.failure(what));
        }
        return text.length() + CALLS_BESIDE_TEXT;
    }

    private String aPlay(int depth, int room) {
        StringBuilder text = new StringBuilder();
        int parts = 1 + below(4);
        for (int part = 0; part < parts && text.length() < room; part++) {
            if (below(3) == 0 && depth < 4) {
                if (below(4) > 0) {
                    text.append(below(12) == 0 ? below(13) : 1 + below(5));
                }
                text.append('(').append(below(8) == 0 ? "" : aPlay(depth + 1, room - text.length())).append(')');
            } else {
                text.append(anAct());
            }
        }
        return text.toString();
    }

    private String anAct() {
        int a = below(15) == 0 ? Math.max(aPuppet(), 0) : Math.max(below(Math.max(model.count(1), 1)), 0);
        switch (below(7)) {
            case 0:
                return "m" + a + "," + (below(20) - 10) + "," + (below(40) - 10) + ";";
            case 1:
                return "t" + a + "," + below(below(15) == 0 ? 5 : 4) + ";";
            case 2:
                return "u" + a + ";";
            case 3:
                return "d" + a + ";";
            case 4:
                return "l" + (1 + below(below(15) == 0 ? 9 : 8)) + ";";
            default:
                return "f;";
        }
    }

    private String spoilt(String text) {
        String signs = "0123456789()fmtudl,;-- x";
        StringBuilder result = new StringBuilder(text);
        int place = below(text.length() + 1);
        switch (below(4)) {
            case 0:
                result.setLength(place);
                break;
            case 1:
                result.deleteCharAt(Math.min(place, text.length() - 1));
                break;
            case 2:
                result.setCharAt(Math.min(place, text.length() - 1), signs.charAt(below(signs.length())));
                break;
            default:
                result.insert(place, signs.charAt(below(signs.length())));
                break;
        }
        return result.toString();
    }

    private void look() {
        int a = aPuppet();
        int y = below(4) == 0 ? about(0, 47) : below(lines);
        switch (below(8)) {
            case 0:
            case 1: {
                int what = about(0, 10);
                compare("count(" + what + ")", stage.count(what), model.count(what));
                break;
            }
            case 2:
            case 3: {
                int what = about(0, 11);
                compare("puppet(" + a + "," + what + ")", stage.puppet(a, what), model.puppet(a, what));
                break;
            }
            case 4: {
                int what = about(0, 2);
                compare("line(" + y + "," + what + ")", stage.line(y, what), model.line(y, what));
                break;
            }
            case 5: {
                int index = about(0, 8);
                compare("shown(" + y + "," + index + ")", stage.shown(y, index), model.shown(y, index));
                break;
            }
            case 6: {
                int x = below(3) == 0 ? about(0, 63) : 18 + below(24);
                compare("dot(" + x + "," + y + ")", stage.dot(x, y), model.dot(x, y));
                break;
            }
            default: {
                int what = about(0, 3);
                compare("clash(" + what + ")", stage.clash(what), model.clash(what));
                break;
            }
        }
    }

    private void foresee() {
        switch (below(5)) {
            case 0:
            case 1: {
                int a = aPuppet();
                int frames = about(1, 60);
                compare("hiddenIn(" + a + "," + frames + ")", stage.hiddenIn(a, frames), model.hiddenIn(a, frames));
                break;
            }
            case 2:
                compare("allShownIn()", stage.allShownIn(), model.allShownIn());
                break;
            case 3: {
                int what = about(0, 1);
                compare("bestStep(" + what + ")", stage.bestStep(what), model.bestStep(what));
                break;
            }
            default:
                compare("worstLine()", stage.worstLine(), model.worstLine());
                break;
        }
    }
}

/** Compares answers with those that are due, and ends a test with exit code 1 if one was not as due. */
final class Check {
    private static final int MOST_PRINTED = 20;

    private int right = 0;
    private int wrong = 0;

    void due(String call, long got, long want) {
        if (got == want) {
            right++;
            return;
        }
        wrong++;
        if (wrong <= MOST_PRINTED) {
            System.out.println(call + " answered " + got + ", due is " + want);
        }
    }

    boolean failed() {
        return wrong > 0;
    }

    void end() {
        System.out.println(right + " answers as due, " + wrong + " not");
        if (wrong > 0 || right == 0) {
            System.exit(1);
        }
    }

    /** Makes this the whole text. */
    static void text(PuppetTurns stage, String text) {
        stage.clearText();
        for (int i = 0; i < text.length(); i++) {
            stage.append(text.charAt(i));
        }
    }

    static int run(PuppetTurns stage, String text) {
        text(stage, text);
        return stage.run();
    }
}

/** Counts and prints the answers that are not as due, and ends a test with exit code 1 if there are some. */
final class Due {
    private static int asked = 0;
    private static int wrong = 0;
    private static String sentence = "";

    private Due() {
    }

    /** The sentence of the document that the next answers are about. */
    static void about(String itsSentence) {
        sentence = "[" + itsSentence + "] ";
    }

    static void same(String call, long got, long want) {
        asked++;
        if (got != want) {
            say(call + " answered " + got + ", due is " + want);
        }
    }

    static void same(String call, String got, String want) {
        asked++;
        if (!got.equals(want)) {
            say(call + " answered " + got + ", due is " + want);
        }
    }

    static void holds(String what, boolean so) {
        asked++;
        if (!so) {
            say(what + " does not hold");
        }
    }

    static void fails(String call, Class<? extends RuntimeException> want, Runnable run) {
        asked++;
        try {
            run.run();
        } catch (RuntimeException got) {
            if (got.getClass() != want) {
                say(call + " throws " + got.getClass().getName() + ", due is " + want.getName());
            }
            return;
        }
        say(call + " throws nothing, due is " + want.getName());
    }

    private static void say(String line) {
        wrong++;
        if (wrong <= 50) {
            System.out.println(sentence + line);
        }
    }

    static boolean anyWrong() {
        return wrong > 0;
    }

    static void end() {
        System.out.println(asked + " answers looked at, " + wrong + " not as due");
        if (wrong != 0 || asked == 0) {
            System.exit(1);
        }
    }
}

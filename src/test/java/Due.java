/** Counts the answers asked for, and prints each one that is not as due, with the sentence that asks for it. */
final class Due {
    private static String sentence = "";
    private static int wrong = 0;
    private static int asked = 0;

    private Due() {
    }

    /** The sentence of the document that the answers from here on depend on. */
    static void says(String text) {
        sentence = text;
    }

    static void is(String call, long got, long want) {
        asked++;
        if (got != want) {
            wrong++;
            System.out.println("\"" + sentence + "\": " + call + " answered " + got + ", due is " + want);
        }
    }

    static void is(String call, boolean got, boolean want) {
        is(call, got ? 1 : 0, want ? 1 : 0);
    }

    static void same(String what, String got, String want) {
        asked++;
        if (!got.equals(want)) {
            wrong++;
            System.out.println("\"" + sentence + "\": " + what + ":\n  got " + got + "\n  due " + want);
        }
    }

    static void end() {
        System.out.println(asked + " answers asked for, " + wrong + " not as due");
        if (wrong > 0) {
            System.exit(1);
        }
    }
}

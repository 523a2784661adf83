/** Counts the answers that are not the due ones, and ends a test's main with 1 if there was one. */
final class Check {
    private static int checked = 0;
    private static int wrong = 0;
    private static int sentences = 0;
    private static int checkedBeforeSentence = -1;
    private static String sentence = "";

    private Check() {
    }

    /** The document's words that the checks from here on are about: a wrong answer is told with them. */
    static void sentence(String words) {
        endSentence();
        sentences++;
        sentence = words;
        checkedBeforeSentence = checked;
    }

    static void due(String what, int got, int want) {
        checked++;
        if (got != want) {
            wrong++;
            tellSentence();
            System.out.println(what + " answered " + got + ", due is " + want);
        }
    }

    static void due(String what, boolean got, boolean want) {
        due(what, got ? 1 : 0, want ? 1 : 0);
    }

    static void end(String test) {
        endSentence();
        String of = sentences == 0 ? "" : " for " + sentences + " sentences";
        System.out.println(test + ": " + checked + " checked" + of + ", " + wrong + " wrong");
        if (wrong != 0 || checked == 0) {
            System.exit(1);
        }
    }

    private static void endSentence() {
        if (checked == checkedBeforeSentence) {
            wrong++;
            tellSentence();
            System.out.println("nothing was checked");
        }
    }

    private static void tellSentence() {
        if (!sentence.isEmpty()) {
            System.out.print("\"" + sentence + "\": ");
        }
    }
}

/** Compares answers with those that are due and keeps count of the wrong ones. */
final class Due {
    private static int wrong = 0;
    private static String words = "";

    private Due() {
    }

    /** Runs the test of one sentence of the document; its words stand before every wrong answer. */
    static void sentence(String ofTheDocument, Runnable test) {
        words = "\"" + ofTheDocument + "\": ";
        test.run();
        words = "";
    }

    static void due(String what, long got, long want) {
        if (got != want) {
            wrong++;
            System.out.println(words + what + ": answered " + got + ", due is " + want);
        }
    }

    static int wrongSoFar() {
        return wrong;
    }

    static void end() {
        System.out.println(wrong == 0 ? "all answers are as due" : wrong + " answers are not as due");
        if (wrong != 0) {
            System.exit(1);
        }
    }
}

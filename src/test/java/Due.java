/** Compares answers with those that are due and keeps count of the wrong ones. */
final class Due {
    private static int wrong = 0;

    private Due() {
    }

    static void due(String what, long got, long want) {
        if (got != want) {
            wrong++;
            System.out.println(what + ": answered " + got + ", due is " + want);
        }
    }

    static int wrongSoFar() {
        return wrong;
    }

    static void end() {
        System.out.println(wrong == 0 ? "all answers are as due" : wrong + " answers are not as due");
        if (wrong != 0) {
            System.exit(1);
        }
    }
}

/** Counts and prints the answers that are not as due; end() is the last call of every test's main. */
final class Due {
    private static int wrong = 0;
    private static int looked = 0;

    private Due() {
    }

    static void due(String call, long got, long want) {
        looked++;
        if (got != want) {
            wrong++;
            System.out.println(call + " answered " + got + ", due is " + want);
        }
    }

    static void due(String what, boolean holds) {
        looked++;
        if (!holds) {
            wrong++;
            System.out.println(what + " does not hold");
        }
    }

    static void end() {
        if (looked == 0) {
            System.out.println("the test looked at no answer");
            System.exit(1);
        }
        System.out.println(wrong == 0 ? looked + " answers are as due" : wrong + " of " + looked + " answers are not as due");
        if (wrong != 0) {
            System.exit(1);
        }
    }
}

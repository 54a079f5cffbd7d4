/** Counts and prints the answers that are not the ones due. */
final class Check {
    private static int wrong = 0;
    private static String sentence = "";

    private Check() {
    }

    /** What is checked from here on belongs to this sentence of the document, with its promise's number. */
    static void sentence(String words) {
        sentence = "[" + words + "] ";
    }

    /** Runs the tests one after the other; one that throws does not keep the others from being run. */
    static void each(Runnable... tests) {
        for (Runnable test : tests) {
            try {
                test.run();
            } catch (RuntimeException e) {
                wrong++;
                System.out.println(sentence + "a call threw " + e);
            }
        }
    }

    static void due(String call, long got, long want) {
        due(call, String.valueOf(got), String.valueOf(want));
    }

    static void due(String call, boolean got, boolean want) {
        due(call, String.valueOf(got), String.valueOf(want));
    }

    static void due(String call, String got, String want) {
        if (!got.equals(want)) {
            wrong++;
            System.out.println(sentence + call + " answered " + got + ", due is " + want);
        }
    }

    static void end() {
        if (wrong != 0) {
            System.out.println(wrong + " answers are not as due");
            System.exit(1);
        }
    }
}

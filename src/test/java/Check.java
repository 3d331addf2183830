/** Compares answers with the ones that are due, prints every wrong one and ends the test. */
final class Check {
    private static final int MOST_PRINTED = 40;

    private static int seen = 0;
    private static int wrong = 0;
    private static String sentence = "";
    private static int seenOfSentence = 0;
    private static int wrongOfSentence = 0;

    private Check() {
    }

    static void due(String call, long got, long want) {
        seen++;
        seenOfSentence++;
        if (got != want) {
            tell(call + " answered " + got + ", due is " + want);
        }
    }

    static void due(String call, boolean got, boolean want) {
        due(call, got ? 1 : 0, want ? 1 : 0);
    }

    static void due(String call, Object got, Object want) {
        boolean same = got.equals(want);
        due(same ? call : call + ": " + got + " instead of " + want, same, true);
    }

    /** Runs the test of one sentence of the document, and names the sentence if it does not hold. */
    static void sentence(String text, Runnable test) {
        sentence = text;
        seenOfSentence = 0;
        wrongOfSentence = 0;
        try {
            test.run();
        } catch (RuntimeException thrown) {
            tell("a call threw " + thrown);
        }
        if (seenOfSentence == 0) {
            tell("nothing was checked");
        }
        sentence = "";
        wrongOfSentence = 0;
    }

    static boolean allRight() {
        return wrong == 0;
    }

    static void finish() {
        if (seen == 0) {
            System.out.println("nothing was checked");
        }
        if (wrong > 0) {
            System.out.println(wrong + " of " + seen + " answers are not as due");
        }
        if (seen == 0 || wrong > 0) {
            System.exit(1);
        }
        System.out.println(seen + " answers are as due");
    }

    private static void tell(String fault) {
        wrong++;
        wrongOfSentence++;
        if (wrongOfSentence == 1 && !sentence.isEmpty()) {
            System.out.println("broken: " + sentence);
        }
        if (wrongOfSentence <= MOST_PRINTED) {
            System.out.println(fault);
        }
    }
}

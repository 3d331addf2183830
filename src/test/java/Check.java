/** Compares answers with the ones that are due, prints every wrong one and ends the test. */
final class Check {
    private static final int MOST_PRINTED = 40;

    private static int seen = 0;
    private static int wrong = 0;

    private Check() {
    }

    static void due(String call, long got, long want) {
        seen++;
        if (got == want) {
            return;
        }
        wrong++;
        if (wrong <= MOST_PRINTED) {
            System.out.println(call + " answered " + got + ", due is " + want);
        }
    }

    static void due(String call, boolean got, boolean want) {
        due(call, got ? 1 : 0, want ? 1 : 0);
    }

    static void due(String call, Object got, Object want) {
        boolean same = got.equals(want);
        due(same ? call : call + ": " + got + " instead of " + want, same, true);
    }

    static boolean allRight() {
        return wrong == 0;
    }

    static void finish() {
        if (seen == 0) {
            System.out.println("nothing was checked");
        }
        if (wrong > 0) {
            System.out.println(wrong + " of " + seen + " answers are not as due");
        }
        if (seen == 0 || wrong > 0) {
            System.exit(1);
        }
        System.out.println(seen + " answers are as due");
    }
}

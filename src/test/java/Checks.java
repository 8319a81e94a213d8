/** Counts the answers that are not as due, and names the place in the test where each was asked. */
final class Checks {
    private static final int SHOWN = 40;

    private static int made = 0;
    private static int wrong = 0;

    private Checks() {
    }

    static void due(long got, long want) {
        due("", got, want);
    }

    static void due(String what, long got, long want) {
        made++;
        if (got == want) {
            return;
        }
        wrong++;
        if (wrong <= SHOWN) {
            System.out.println(callerOutsideThisClass() + " " + what + ": answered " + got + ", due is " + want);
        }
    }

    private static String callerOutsideThisClass() {
        for (StackTraceElement place : new Throwable().getStackTrace()) {
            if (!place.getClassName().equals("Checks")) {
                return place.getFileName() + ":" + place.getLineNumber() + " (" + place.getMethodName() + ")";
            }
        }
        return "somewhere";
    }

    /** Ends the test: exit code 1 if an answer was wrong or none was looked at. */
    static void finish() {
        System.out.println(made + " answers, " + wrong + " not as due");
        if (wrong > 0 || made == 0) {
            System.exit(1);
        }
    }
}

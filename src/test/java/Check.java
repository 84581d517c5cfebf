/** Compares answers with those that are due, and ends the program with 1 if one was wrong. */
final class Check {
    private static int wrong = 0;
    private static int looked = 0;

    private Check() {
    }

    static void due(String call, long want, long got) {
        looked++;
        if (got != want) {
            wrong++;
            System.out.println(call + " answered " + got + ", due is " + want);
        }
    }

    static void due(String call, boolean want, boolean got) {
        due(call, want ? 1 : 0, got ? 1 : 0);
    }

    static void due(String call, String want, String got) {
        looked++;
        if (!got.equals(want)) {
            wrong++;
            System.out.println(call + " answered " + got + ", due is " + want);
        }
    }

    static void same(String what, String want, String got) {
        looked++;
        if (!got.equals(want)) {
            wrong++;
            System.out.println(what + " was changed\n  from " + want + "\n  to   " + got);
        }
    }

    static int wrong() {
        return wrong;
    }

    static void finish() {
        System.out.println(looked + " answers, " + wrong + " of them not as due");
        System.exit(wrong == 0 && looked > 0 ? 0 : 1);
    }
}

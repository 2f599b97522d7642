import java.util.NoSuchElementException;

/** Counts the answers that are not the ones that are due. */
final class Check {
    private static int asked;
    private static int wrong;

    private Check() {
    }

    interface Call {
        int answer();
    }

    static void same(String what, long got, long want) {
        same(what, Long.toString(got), Long.toString(want));
    }

    static void yes(String what, boolean got) {
        same(what, Boolean.toString(got), "true");
    }

    static void no(String what, boolean got) {
        same(what, Boolean.toString(got), "false");
    }

    static void same(String what, String got, String want) {
        asked++;
        if (!got.equals(want)) {
            wrong++;
            System.out.println(what + " answered " + got + ", due is " + want);
        }
    }

    static void noSuch(String what, Call call) {
        String got;
        try {
            got = Integer.toString(call.answer());
        } catch (NoSuchElementException e) {
            got = "throws";
        }
        same(what, got, "throws");
    }

    static void refused(String what, Call call) {
        String got;
        try {
            got = Integer.toString(call.answer());
        } catch (IllegalArgumentException e) {
            got = "throws";
        }
        same(what, got, "throws");
    }

    static void finish() {
        System.out.println(asked - wrong + " answers as due, " + wrong + " not");
        if (wrong != 0 || asked == 0) {
            System.exit(1);
        }
    }
}

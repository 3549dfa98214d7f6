/** Compares answers with those that are due, and counts both kinds. */
final class Due {
    interface Call {
        long run();
    }

    private static int right = 0;
    private static int wrong = 0;

    private Due() {
    }

    static void is(String what, long got, long want) {
        if (got == want) {
            right++;
        } else {
            wrong++;
            System.out.println(what + " answered " + got + ", due is " + want);
        }
    }

    static void is(String what, boolean got, boolean want) {
        is(what, got ? 1 : 0, want ? 1 : 0);
    }

    static void is(String what, String got, String want) {
        if (!got.equals(want)) {
            System.out.println(what + " answered " + got + ", due is " + want);
        }
        is(what, got.equals(want), true);
    }

    static void thrown(String what, Class<? extends RuntimeException> want, Call call) {
        String got;
        try {
            got = "the answer " + call.run();
        } catch (RuntimeException e) {
            got = e.getClass().getSimpleName() + byTheLibrary(e);
        }
        is(what, got, want.getSimpleName());
    }

    /** The class throws its exceptions itself, and leaves none to the library or the machine. */
    static String byTheLibrary(RuntimeException e) {
        StackTraceElement[] calls = e.getStackTrace();
        if (calls.length == 0) {
            return " thrown by the machine";
        }
        String thrower = calls[0].getClassName();
        return thrower.startsWith("java.") || thrower.startsWith("jdk.") ? " thrown by " + thrower : "";
    }

    /** Ends the program: with exit code 1 if an answer was wrong. */
    static void end(String test) {
        System.out.println(test + ": " + right + " answers right, " + wrong + " wrong");
        if (wrong != 0 || right == 0) {
            System.exit(1);
        }
    }
}

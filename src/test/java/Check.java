/** Counts the answers of one test program, and prints those that are not due. */
final class Check {
    /** A call that may throw. */
    interface Call {
        void make();
    }

    private static int passed = 0;
    private static int failed = 0;

    private Check() {
    }

    static void due(String what, long due, long got) {
        count(what, due == got, Long.toString(due), Long.toString(got));
    }

    static void due(String what, String due, String got) {
        count(what, due.equals(got), due, got);
    }

    static void due(String what, boolean due, boolean got) {
        count(what, due == got, Boolean.toString(due), Boolean.toString(got));
    }

    static void holds(String what, boolean held) {
        count(what, held, "true", "false");
    }

    /** The call must throw just this exception, not one of a class below it. */
    static void throwing(String what, Class<? extends RuntimeException> due, Call call) {
        String got = "nothing";
        try {
            call.make();
        } catch (RuntimeException e) {
            got = e.getClass().getName();
        }
        count(what, due.getName().equals(got), due.getName(), got);
    }

    /** The call must be refused, with the reason, its detail and the index of the command. */
    static void refused(String what, DroverTracks x, int reason, int detail, int command, Call call) {
        throwing(what, UnsupportedOperationException.class, call);
        due(what + ": reason", reason, x.reason(0));
        due(what + ": detail", detail, x.reason(1));
        due(what + ": command", command, x.reason(2));
    }

    static void end(String program) {
        System.out.println(program + ": " + passed + " passed, " + failed + " failed");
        System.exit(failed == 0 && passed > 0 ? 0 : 1);
    }

    private static void count(String what, boolean isDue, String due, String got) {
        if (isDue) {
            passed++;
        } else {
            failed++;
            System.out.println("NOT DUE " + what + ": answered " + got + ", due is " + due);
        }
    }
}

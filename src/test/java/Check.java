/** Counts what was asked, and prints each answer that is not the one that is due. */
final class Check {
    private static int asked = 0;
    private static int wrong = 0;

    private Check() {
    }

    static void same(String what, Object got, Object due) {
        asked++;
        if (!due.equals(got)) {
            wrong++;
            System.out.println(what + " answered " + got + ", due is " + due);
        }
    }

    static void same(String what, long got, long due) {
        same(what, (Object) got, (Object) due);
    }

    static void yes(String what, boolean got) {
        same(what, (Object) got, (Object) true);
    }

    static void no(String what, boolean got) {
        same(what, (Object) got, (Object) false);
    }

    /** The call must throw just this class, none below it, as the machine's own ones are. */
    static void refused(String what, Class<? extends RuntimeException> due, Runnable call) {
        Object got = "nothing";
        try {
            call.run();
        } catch (RuntimeException thrown) {
            got = thrown.getClass();
        }
        same(what + " throws", got, (Object) due);
    }

    /** The call must throw nothing. */
    static void taken(String what, Runnable call) {
        Object got = "nothing";
        try {
            call.run();
        } catch (RuntimeException thrown) {
            got = thrown.getClass();
        }
        same(what + " throws", got, (Object) "nothing");
    }

    /** Ends the program, with exit code 1 if an answer was wrong. */
    static void end(String name) {
        System.out.println(name + ": " + asked + " asked, " + wrong + " wrong");
        if (wrong != 0 || asked == 0) {
            System.exit(1);
        }
    }
}

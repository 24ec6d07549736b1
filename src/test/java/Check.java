/** Counts the checks of one test program and prints those that fail. */
final class Check {
    interface Call {
        void run();
    }

    private static int done = 0;
    private static int wrong = 0;
    private static String place = "";

    private Check() {
    }

    /** Where the checks belong that follow, for their messages. */
    static void in(String where) {
        place = where.isEmpty() ? "" : where + " -- ";
    }

    static void same(String what, long got, long want) {
        done++;
        if (got != want) {
            wrong++;
            System.out.println(place + what + ": got " + got + ", want " + want);
        }
    }

    static void yes(String what, boolean got) {
        same(what, got ? 1 : 0, 1);
    }

    static void no(String what, boolean got) {
        same(what, got ? 1 : 0, 0);
    }

    /** The class must be the very one: the machine's own exceptions are classes below it. */
    static void fails(String what, Class<?> want, Call call) {
        done++;
        Class<?> got = null;
        try {
            call.run();
        } catch (RuntimeException e) {
            got = e.getClass();
        }
        if (got != want) {
            wrong++;
            System.out.println(place + what + ": got " + got + ", want " + want);
        }
    }

    static void noIndex(String what, Call call) {
        fails(what, IndexOutOfBoundsException.class, call);
    }

    static void noArgument(String what, Call call) {
        fails(what, IllegalArgumentException.class, call);
    }

    static void noState(String what, Call call) {
        fails(what, IllegalStateException.class, call);
    }

    static void end(String name) {
        System.out.println(name + ": " + done + " checks, " + wrong + " wrong");
        if (wrong != 0) {
            System.exit(1);
        }
    }
}

/** What the tests say of the answers they got. */
final class Check {
    interface Call {
        void run();
    }

    private static int wrong = 0;

    private Check() {
    }

    static void that(String what, boolean holds) {
        if (!holds) {
            wrong++;
            if (wrong <= 20) System.out.println("wrong: " + what);
        }
    }

    static void due(String what, long got, long want) {
        that(what + " answered " + got + ", due is " + want, got == want);
    }

    static void due(String what, boolean got, boolean want) {
        that(what + " answered " + got + ", due is " + want, got == want);
    }

    static void throwsBounds(String what, Call call) {
        dueException(what, call, IndexOutOfBoundsException.class);
    }

    static void throwsArgument(String what, Call call) {
        dueException(what, call, IllegalArgumentException.class);
    }

    static void throwsState(String what, Call call) {
        dueException(what, call, IllegalStateException.class);
    }

    private static void dueException(String what, Call call, Class<?> due) {
        Class<?> got = null;
        try {
            call.run();
        } catch (RuntimeException e) {
            got = e.getClass();
        }
        that(what + " threw " + got + ", due is " + due, got == due);
    }

    static void end(String test) {
        System.out.println(test + ": " + (wrong == 0 ? "all answers are as due" : wrong + " answers are not as due"));
        if (wrong != 0) System.exit(1);
    }
}

/** What the tests say of the answers they got. Tests of many LINES extend it, to name KINDS without "Check.". */
class Check {
    interface Call {
        void run();
    }

    static final int NONE = -1;

    static final int ADD = 0, GET = 1, PUT = 2, YIELD = 3, LOOP = 4, SKIP = 5, TRY = 6, DONE = 7, LAST = 8, THROW = 9,
        FROM = 10, RETURN = 11, SLEEP = 12, AWAIT = 13, SPAWN = 14, SHIELD = 15;

    static final int CATCH = 0, FINALLY = 1;

    private static int wrong = 0;
    private static String sentence = "";

    static {
        Thread.setDefaultUncaughtExceptionHandler((thread, e) -> {
            System.out.println("wrong: " + e + " was thrown, due is an answer" + sentence);
            e.printStackTrace(System.out);
        });
    }

    /** Says which sentence of the document the answers that follow are due by: it is named with each that is wrong. */
    static void sentence(String where, String words) {
        sentence = " (" + where + ": \"" + words + "\")";
    }

    /** Writes a BODY; each LINE is three numbers: its KIND, its a, its b. */
    static int write(YieldMoor x, int... lines) {
        int body = x.body();
        for (int i = 0; i + 2 < lines.length; i += 3) x.line(body, lines[i], lines[i + 1], lines[i + 2]);
        return body;
    }

    static void that(String what, boolean holds) {
        if (!holds) {
            wrong++;
            if (wrong <= 20) System.out.println("wrong: " + what + sentence);
        }
    }

    static void due(String what, long got, long want) {
        that(what + " answered " + got + ", due is " + want, got == want);
    }

    static void due(String what, boolean got, boolean want) {
        that(what + " answered " + got + ", due is " + want, got == want);
    }

    static void throwsBounds(String what, Call call) {
        dueException(what, call, IndexOutOfBoundsException.class);
    }

    static void throwsArgument(String what, Call call) {
        dueException(what, call, IllegalArgumentException.class);
    }

    static void throwsState(String what, Call call) {
        dueException(what, call, IllegalStateException.class);
    }

    private static void dueException(String what, Call call, Class<?> due) {
        Class<?> got = null;
        try {
            call.run();
        } catch (RuntimeException e) {
            got = e.getClass();
        }
        that(what + " threw " + got + ", due is " + due, got == due);
    }

    static void end(String test) {
        System.out.println(test + ": " + (wrong == 0 ? "all answers are as due" : wrong + " answers are not as due"));
        if (wrong != 0) System.exit(1);
    }
}

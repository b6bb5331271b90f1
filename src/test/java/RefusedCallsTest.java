/** What stands behind section 5: what throws changes nothing; and of several exceptions the first one is thrown. */
public final class RefusedCallsTest extends Check {
    private static final int[] FAR = {Integer.MIN_VALUE, -1, 24, 1000, Integer.MAX_VALUE};

    public static void main(String[] args) {
        nothingIsChangedInANewOne();
        nothingIsChanged();
        nothingIsChangedInAFullOne();
        boundsAheadOfArgument();
        boundsAheadOfState();
        argumentAheadOfState();
        whatWouldBeChangesNothing();
        Check.end("RefusedCallsTest");
    }

    /** Some of each: 0 to 2 are INNER ones and what they are INNER to, 3 to 8 TASKS that wait, 9 and 10 are OVER. */
    private static YieldMoor many() {
        YieldMoor x = new YieldMoor();
        int leaf = write(x, TRY, 1, 3, ADD, 5, 0, YIELD, 0, 0, PUT, 2, 0, YIELD, 0, 0, LAST, 0, 0);
        int outer = write(x, TRY, 0, 2, FROM, leaf, 0, ADD, 1, 0, YIELD, 0, 0);
        int sleeps = write(x, SHIELD, 1, 0, SLEEP, 3, 0, SHIELD, 0, 0, YIELD, 0, 0);
        int awaits = write(x, ADD, 3, 0, AWAIT, 0, 0, PUT, 1, 0);
        int spawns = write(x, SPAWN, leaf, 0, YIELD, 0, 0, THROW, 4, 0);
        int top = x.generator(write(x, FROM, outer, 0));
        x.resume(top, 0);
        x.start(sleeps);
        x.start(awaits);
        x.start(awaits);
        x.start(spawns);
        x.run(6);
        x.cancel(3);
        x.start(leaf);
        x.close(x.generator(leaf));
        x.raise(x.generator(leaf), 6);
        return x;
    }

    /** The same as many(), with 8 BODIES and 24 COROUTINES. */
    private static YieldMoor full() {
        YieldMoor x = many();
        while (x.many(0) < 8) x.line(x.body(), YIELD, 0, 0);
        while (x.many(1) < 24) x.generator(0);
        return x;
    }

    /** Goes on for a while; answers a number of all that was answered. */
    private static long rest(YieldMoor x) {
        long d = x.digest();
        for (int i = 0; i < 6; i++) {
            d = d * 31 + x.run(2);
            d = d * 31 + x.tick(1);
            d = d * 31 + x.resume(0, i);
            d = d * 31 + x.digest();
            if (x.of(0, 1) != 1) break;
        }
        d = d * 31 + x.close(0);
        d = d * 31 + x.run(50);
        return d * 31 + x.digest();
    }

    private static void refused(YieldMoor x, int bodies, int coroutines) {
        for (int n : new int[] {Integer.MIN_VALUE, -1, bodies, 8, Integer.MAX_VALUE}) {
            throwsBounds("line", () -> x.line(n, YIELD, 0, 0));
            throwsBounds("ofBody", () -> x.ofBody(n, 0));
            throwsBounds("generator", () -> x.generator(n));
            throwsBounds("start", () -> x.start(n));
        }
        for (int n : FAR) noSuchNumber(x, n);
        noSuchNumber(x, coroutines);
        for (int turns : new int[] {Integer.MIN_VALUE, 0, 51, Integer.MAX_VALUE}) {
            throwsArgument("run", () -> x.run(turns));
            throwsArgument("overIn", () -> x.overIn(turns));
        }
        for (int ticks : new int[] {Integer.MIN_VALUE, 0, 21, Integer.MAX_VALUE}) {
            throwsArgument("tick", () -> x.tick(ticks));
        }
        throwsArgument("many", () -> x.many(-1));
        throwsArgument("many", () -> x.many(12));
    }

    private static void noSuchNumber(YieldMoor x, int n) {
        if (n < x.many(1) && n >= 0) return;
        throwsBounds("resume", () -> x.resume(n, 0));
        throwsBounds("raise", () -> x.raise(n, 1));
        throwsBounds("close", () -> x.close(n));
        throwsBounds("cancel", () -> x.cancel(n));
        throwsBounds("of", () -> x.of(n, 0));
        throwsBounds("local", () -> x.local(n, 0));
        throwsBounds("stack", () -> x.stack(n, 0));
        throwsBounds("ofTask", () -> x.ofTask(n, 0));
        throwsBounds("wouldGive", () -> x.wouldGive(n, 0));
        throwsBounds("wouldClose", () -> x.wouldClose(n));
        throwsBounds("isOverBy", () -> x.isOverBy(n, 1));
        throwsBounds("left", () -> x.left(n));
    }

    /** What many() and full() refuse besides, for each COROUTINE that they have. */
    private static void refusedOfSome(YieldMoor x) {
        for (int n = 0; n < x.many(1); n++) {
            int is = n;
            int sort = x.of(n, 2);
            boolean over = x.of(n, 1) >= 3;
            if (sort != 0) {
                throwsBounds("resume", () -> x.resume(is, 0));
                throwsBounds("raise", () -> x.raise(is, 1));
                throwsBounds("close", () -> x.close(is));
            } else {
                throwsArgument("resume", () -> x.resume(is, 1000));
                throwsArgument("raise", () -> x.raise(is, 8));
            }
            if (sort == 0 && over) {
                throwsState("resume", () -> x.resume(is, 0));
                throwsState("raise", () -> x.raise(is, 1));
            }
            if (sort != 1) throwsBounds("cancel", () -> x.cancel(is));
            throwsArgument("of", () -> x.of(is, 8));
            throwsBounds("local", () -> x.local(is, 4));
            throwsBounds("stack", () -> x.stack(is, 6));
        }
        throwsState("line", () -> x.line(0, YIELD, 0, 0));
        throwsArgument("line", () -> x.line(0, YIELD, 1, 0));
    }

    private static void nothingIsChangedInANewOne() {
        sentence("behind section 5", "A method that throws an exception changes nothing.");
        YieldMoor x = new YieldMoor();
        long before = x.digest();
        refused(x, 0, 0);
        due("digest", x.digest(), before);
        due("the first BODY", x.body(), 0);
        due("the first LINE", x.line(0, YIELD, 0, 0), 0);
        due("the first COROUTINE", x.generator(0), 0);
    }

    private static void nothingIsChanged() {
        sentence("behind section 5", "A method that throws an exception changes nothing.");
        YieldMoor x = many();
        due("another one to which the same was done", x.digest(), many().digest());
        long before = x.digest();
        refused(x, 6, 11);
        refusedOfSome(x);
        due("digest", x.digest(), before);
        due("all that comes behind that", rest(x), rest(many()));
    }

    private static void nothingIsChangedInAFullOne() {
        sentence("behind section 5", "A method that throws an exception changes nothing.");
        YieldMoor x = full();
        long before = x.digest();
        refused(x, 8, 24);
        refusedOfSome(x);
        throwsState("body", () -> x.body());
        throwsState("generator", () -> x.generator(7));
        throwsState("start", () -> x.start(7));
        due("digest", x.digest(), before);
        due("all that comes behind that", rest(x), rest(full()));
        YieldMoor y = new YieldMoor();
        y.body();
        for (int n = 0; n < 12; n++) y.line(0, ADD, 1, 0);
        throwsState("a 13th LINE", () -> y.line(0, THROW, 1, 0));
        due("the 12 are as they were", y.resume(y.generator(0), 0), -20000);
        due("with", y.of(0, 4), 12);
    }

    private static void boundsAheadOfArgument() {
        sentence("behind section 5", "If several exceptions apply, the one that is named first is thrown.");
        YieldMoor x = full();
        int inner = 1;
        int task = 3;
        int over = 9;
        throwsBounds("line: no BODY, a wrong kind", () -> x.line(8, 16, 0, 0));
        throwsBounds("line: no BODY, a wrong a", () -> x.line(-1, YIELD, 1, 0));
        throwsBounds("line: no BODY, a wrong b", () -> x.line(-1, YIELD, 0, 1));
        throwsBounds("ofBody: no BODY, a wrong what", () -> x.ofBody(8, 3));
        throwsBounds("of: no COROUTINE, a wrong what", () -> x.of(24, 8));
        for (int n : new int[] {-1, inner, task, 24}) {
            throwsBounds("resume: no GENERATOR, a wrong value", () -> x.resume(n, 1000));
            throwsBounds("raise: no GENERATOR, a wrong k", () -> x.raise(n, 0));
            throwsBounds("wouldGive: no GENERATOR, a wrong value", () -> x.wouldGive(n, -1000));
        }
        throwsBounds("wouldGive: one that is OVER, a wrong value", () -> x.wouldGive(over, 1000));
        for (int n : new int[] {-1, 0, inner, over, 24}) {
            throwsBounds("ofTask: no TASK, a wrong what", () -> x.ofTask(n, 7));
            throwsBounds("isOverBy: no TASK, wrong turns", () -> x.isOverBy(n, 51));
        }
    }

    private static void boundsAheadOfState() {
        sentence("behind section 5", "If several exceptions apply, the one that is named first is thrown.");
        YieldMoor x = full();
        throwsBounds("generator: no BODY, and there are 24", () -> x.generator(8));
        throwsBounds("generator: no BODY, and there are 24", () -> x.generator(-1));
        throwsBounds("start: no BODY, and there are 24", () -> x.start(8));
        throwsBounds("start: no BODY, and there are 24", () -> x.start(-1));
    }

    private static void argumentAheadOfState() {
        sentence("behind section 5", "If several exceptions apply, the one that is named first is thrown.");
        YieldMoor x = full();
        for (int over = 9; over <= 10; over++) {
            int n = over;
            throwsArgument("resume: a wrong value, and it is OVER", () -> x.resume(n, 1000));
            throwsArgument("raise: a wrong k, and it is OVER", () -> x.raise(n, 8));
            throwsState("resume: it is OVER", () -> x.resume(n, 999));
            throwsState("raise: it is OVER", () -> x.raise(n, 7));
        }
        throwsArgument("line: a wrong kind, and a COROUTINE was made", () -> x.line(0, 16, 0, 0));
        throwsArgument("line: a wrong a, and a COROUTINE was made", () -> x.line(0, YIELD, 1, 0));
        throwsArgument("line: a wrong b, and a COROUTINE was made", () -> x.line(0, YIELD, 0, 1));
        YieldMoor y = new YieldMoor();
        y.body();
        for (int n = 0; n < 12; n++) y.line(0, LAST, 0, 0);
        throwsArgument("line: a wrong kind, and it has 12", () -> y.line(0, -1, 0, 0));
        throwsArgument("line: a wrong a, and it has 12", () -> y.line(0, ADD, 100, 0));
        throwsArgument("line: a wrong b, and it has 12", () -> y.line(0, LOOP, 0, 13));
        throwsState("line: it has 12", () -> y.line(0, LOOP, 0, 12));
    }

    private static void whatWouldBeChangesNothing() {
        sentence("behind section 5", "what would be (nothing is changed)");
        for (int how = 0; how < 2; how++) {
            YieldMoor x = how == 0 ? many() : full();
            long before = x.digest();
            for (int n = 0; n < x.many(1); n++) {
                if (x.of(n, 2) == 0) {
                    if (x.of(n, 1) < 3) due("wouldGive, twice", x.wouldGive(n, 7), x.wouldGive(n, 7));
                    due("wouldClose, twice", x.wouldClose(n), x.wouldClose(n));
                    due("left, twice", x.left(n), x.left(n));
                }
                if (x.of(n, 2) == 1) due("isOverBy, twice", x.isOverBy(n, 50), x.isOverBy(n, 50));
            }
            due("overIn, twice", x.overIn(50), x.overIn(50));
            due("digest", x.digest(), before);
            due("all that comes behind that", rest(x), rest(how == 0 ? many() : full()));
        }
    }
}

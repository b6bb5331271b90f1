/** Section 3, sentence by sentence: how many COROUTINES, and what is done to NEW, WAITING and INNER ones. */
public final class Section3EdgesTest extends Check {
    private static final int OVER = -20000;
    private static final int NEW = 0, WAITING = 1, RETURNED = 3, FAILED = 4;

    public static void main(String[] args) {
        twentyFourOfAllSorts();
        theOtherOnesMadeAsThereAre23();
        states();
        resumeANewOne();
        resumeAWaitingOne();
        throwIntoANewOne();
        throwIntoAWaitingOne();
        closeANewOne();
        closeAndFailedWithTen();
        closeAndFailedWithAnother();
        closeAndYield();
        fromCanNotBeMade();
        fromIsReturned();
        fromIsFailed();
        fromWaits();
        fromAsDeepAsCanBe();
        doneToTheInnerOne();
        closedInnerIsReturned();
        closedInnerIsTheFault();
        faultInTheMiddle();
        faultWithAnInnerOneOfItsOwn();
        closedInnerIsFailed();
        closedAndEightThenTen();
        threeInAGenerator();
        threeGoesAhead();
        shieldInAGenerator();
        Check.end("Section3EdgesTest");
    }

    private static void is(YieldMoor x, int coroutine, int state, int line, int there) {
        due("of(" + coroutine + ", 1)", x.of(coroutine, 1), state);
        due("of(" + coroutine + ", 3)", x.of(coroutine, 3), line);
        due("of(" + coroutine + ", 4)", x.of(coroutine, 4), there);
    }

    private static void twentyFourOfAllSorts() {
        sentence("section 3", "At most 24 COROUTINES are made, numbered from 0: GENERATORS, TASKS, and INNER ones.");
        YieldMoor x = new YieldMoor();
        int leaf = write(x, YIELD, 0, 0);
        int from = write(x, FROM, leaf, 0, YIELD, 0, 0);
        int spawn = write(x, SPAWN, leaf, 0, YIELD, 0, 0);
        for (int n = 0; n < 24; n += 4) {
            due("a GENERATOR", x.generator(from), n);
            x.resume(n, 0);
            due("an INNER one", x.of(n, 6), n + 1);
            due("a TASK", x.start(spawn), n + 2);
            x.run(50);
            due("one that was SPAWNED", x.ofTask(n + 3, 5), n + 2);
        }
        due("COROUTINES", x.many(1), 24);
        throwsState("a 25th, a GENERATOR", () -> x.generator(leaf));
        throwsState("a 25th, a TASK", () -> x.start(leaf));
        due("COROUTINES", x.many(1), 24);
        due("the last one", x.of(23, 0), leaf);
        throwsBounds("none is the 25th", () -> x.of(24, 0));
        x.close(0);
        throwsState("those that are OVER were made too", () -> x.generator(leaf));
    }

    private static void theOtherOnesMadeAsThereAre23() {
        sentence("section 3", "THROWN 4, if there is no such BODY, or there are 24");
        for (int kind : new int[] {FROM, SPAWN}) {
            for (int made = 23; made <= 24; made++) {
                YieldMoor x = new YieldMoor();
                int leaf = write(x, ADD, 1, 0);
                int t = x.start(write(x, kind, leaf, 0, RETURN, 0, 0));
                while (x.many(1) < made) x.generator(leaf);
                x.run(1);
                due("the KIND " + kind + " as there are " + made, x.of(t, 1), made < 24 ? RETURNED : FAILED);
                due("with", x.of(t, 4), made == 24 ? 4 : kind == FROM ? 1 : 23);
                due("COROUTINES", x.many(1), 24);
            }
        }
    }

    private static void states() {
        sentence("section 3", "Each is NEW (0), WAITING (1), RUNNING (2), RETURNED (3), or FAILED (4).");
        YieldMoor x = new YieldMoor();
        int body = write(x, YIELD, 0, 0, SKIP, 0, 3, THROW, 6, 0);
        int g = x.generator(body);
        is(x, g, NEW, NONE, 0);
        x.resume(g, 0);
        is(x, g, WAITING, 0, 0);
        x.resume(g, 0);
        is(x, g, RETURNED, NONE, 0);
        int h = x.generator(body);
        x.resume(h, 0);
        x.resume(h, 1);
        is(x, h, FAILED, NONE, 6);
    }

    private static void resumeANewOne() {
        sentence("section 3", "To RESUME one with a value: NEW: it begins with the LINE 0 (the value is dropped).");
        YieldMoor x = new YieldMoor();
        int body = write(x, PUT, 0, 0, YIELD, 0, 0);
        for (int value : new int[] {-999, -1, 1, 999}) {
            int g = x.generator(body);
            due("resume", x.resume(g, value), 0);
            due("the LOCAL", x.local(g, 0), 0);
        }
        due("RETURNED with what there is", x.resume(x.generator(x.body()), 999), OVER);
        is(x, 4, RETURNED, NONE, 0);
    }

    private static void resumeAWaitingOne() {
        sentence("section 3", "WAITING at a YIELD: there is the value then, and it goes on behind that. It runs till it "
            + "YIELDS (it gives what there is), or is OVER.");
        YieldMoor x = new YieldMoor();
        int g = x.generator(write(x, ADD, 60, 0, YIELD, 0, 0, YIELD, 0, 0, YIELD, 0, 0, YIELD, 0, 0));
        due("what there is", x.resume(g, 0), 60);
        for (int value : new int[] {-999, 0, 999}) due("what it gives", x.resume(g, value), value);
        is(x, g, WAITING, 4, 999);
        due("OVER", x.resume(g, -999), OVER);
        is(x, g, RETURNED, NONE, -999);
    }

    private static void throwIntoANewOne() {
        sentence("section 3", "To THROW k into one: NEW: it is FAILED with k at once.");
        for (int k = 1; k <= 7; k += 6) {
            for (int a = CATCH; a <= FINALLY; a++) {
                YieldMoor x = new YieldMoor();
                int g = x.generator(write(x, TRY, a, 1, YIELD, 0, 0));
                due("raise", x.raise(g, k), OVER - k);
                is(x, g, FAILED, NONE, k);
                due("LINES done", x.of(g, 7), 0);
            }
        }
        YieldMoor x = new YieldMoor();
        due("of a BODY without LINES", x.raise(x.generator(x.body()), 3), OVER - 3);
    }

    private static void throwIntoAWaitingOne() {
        sentence("section 3", "WAITING: k is THROWN there.");
        for (int k = 1; k <= 7; k += 6) {
            YieldMoor x = new YieldMoor();
            int body = write(x, TRY, 0, 3, ADD, 60, 0, YIELD, 0, 0, YIELD, 0, 0);
            int g = x.generator(body);
            x.resume(g, 0);
            due("it is caught", x.raise(g, k), k);
            is(x, g, WAITING, 3, k);
            due("it is not", x.raise(g, 8 - k), OVER + k - 8);
            int last = x.generator(write(x, TRY, 1, 2, YIELD, 0, 0, LAST, 0, 0));
            x.resume(last, 0);
            due("THROWN again", x.raise(last, k), OVER - k);
        }
    }

    private static void closeANewOne() {
        sentence("section 3", "To CLOSE one: NEW: it is RETURNED, with 0, at once.");
        YieldMoor x = new YieldMoor();
        int g = x.generator(write(x, ADD, 60, 0, TRY, 1, 2, THROW, 3, 0));
        due("close", x.close(g), 0);
        is(x, g, RETURNED, NONE, 0);
        due("LINES done", x.of(g, 7), 0);
    }

    private static void closeAndFailedWithTen() {
        sentence("section 3", "WAITING: 10 is THROWN there: if it is FAILED with 10 by that, it is RETURNED instead, "
            + "with 0.");
        YieldMoor x = new YieldMoor();
        int plain = x.generator(write(x, ADD, 60, 0, YIELD, 0, 0));
        int again = x.generator(write(x, TRY, 1, 3, ADD, 60, 0, YIELD, 0, 0, ADD, 1, 0, LAST, 0, 0));
        for (int g = plain; g <= again; g++) {
            x.resume(g, 0);
            due("close", x.close(g), 0);
            is(x, g, RETURNED, NONE, 0);
        }
        int returns = x.generator(write(x, TRY, 1, 3, ADD, 60, 0, YIELD, 0, 0, ADD, 1, 0));
        x.resume(returns, 0);
        due("close of one that RETURNS by itself", x.close(returns), 0);
        is(x, returns, RETURNED, NONE, 61);
    }

    private static void closeAndFailedWithAnother() {
        sentence("section 3", "if it is FAILED with 10 by that, it is RETURNED instead, with 0");
        for (int k = 1; k <= 7; k += 6) {
            YieldMoor x = new YieldMoor();
            int g = x.generator(write(x, TRY, 1, 2, YIELD, 0, 0, THROW, k, 0));
            x.resume(g, 0);
            due("FAILED with another", x.close(g), k);
            is(x, g, FAILED, NONE, k);
        }
    }

    private static void closeAndYield() {
        sentence("section 3", "If it YIELDS, it stays WAITING there, and that is the FAULT 8.");
        YieldMoor x = new YieldMoor();
        int g = x.generator(write(x, TRY, 1, 2, YIELD, 0, 0, ADD, 5, 0, YIELD, 0, 0, TRY, 1, 5, YIELD, 0, 0,
            LAST, 0, 0, YIELD, 0, 0));
        x.resume(g, 0);
        due("the FAULT", x.close(g), 8);
        is(x, g, WAITING, 3, 5);
        due("it goes on", x.resume(g, 70), 70);
        due("the FAULT again", x.close(g), 8);
        is(x, g, WAITING, 5, 70);
        due("2 WAYS are on the STACK", x.of(g, 5), 2);
        due("10 again by resume: that is no CLOSE", x.wouldGive(g, 0), OVER - 10);
        due("10 by CLOSE", x.close(g), 0);
        is(x, g, RETURNED, NONE, 0);
    }

    private static void fromCanNotBeMade() {
        sentence("section 3", "THROWN 4, if there is no such BODY, or there are 24");
        YieldMoor x = new YieldMoor();
        int g = x.generator(write(x, TRY, 0, 2, FROM, 1, 0, YIELD, 0, 0));
        due("the BODY that would be the next one", x.resume(g, 0), 4);
        is(x, g, WAITING, 2, 4);
        due("INNER one", x.of(g, 6), NONE);
        due("COROUTINES", x.many(1), 1);
        int seven = write(x, FROM, 7, 0);
        while (x.many(0) < 7) x.body();
        due("the BODY 7 as there are 7", x.resume(x.generator(seven), 0), OVER - 4);
        x.body();
        due("the BODY 7 as there are 8", x.resume(x.generator(seven), 0), OVER);
        due("COROUTINES", x.many(1), 4);
    }

    private static void fromIsReturned() {
        sentence("section 3", "As that is RETURNED, there is what it was RETURNED with, and the outer one goes on behind "
            + "the FROM");
        YieldMoor x = new YieldMoor();
        int empty = x.body();
        int nine = write(x, ADD, 9, 0, RETURN, 0, 0);
        int g = x.generator(write(x, ADD, 60, 0, FROM, empty, 0, YIELD, 0, 0, FROM, nine, 0, YIELD, 0, 0));
        due("0 of a BODY without LINES, without a wait", x.resume(g, 0), 0);
        is(x, g, WAITING, 2, 0);
        due("9, without a wait", x.resume(g, 700), 9);
        is(x, 2, RETURNED, NONE, 9);
        due("none is INNER to it", x.of(g, 6), NONE);
        int through = write(x, ADD, 5, 0, TRY, 1, 4, RETURN, 0, 0, YIELD, 0, 0, ADD, 50, 0, LAST, 0, 0);
        int h = x.generator(write(x, FROM, through, 0, YIELD, 0, 0));
        due("a RETURN that was done again", x.resume(h, 0), 5);
    }

    private static void fromIsFailed() {
        sentence("section 3", "as it is FAILED with k, k is THROWN at the FROM");
        for (int k = 1; k <= 7; k += 6) {
            YieldMoor x = new YieldMoor();
            int fails = write(x, ADD, 20, 0, THROW, k, 0);
            int g = x.generator(write(x, TRY, 0, 3, ADD, 60, 0, FROM, fails, 0, YIELD, 0, 0));
            due("at once, caught", x.resume(g, 0), k);
            is(x, 1, FAILED, NONE, k);
            int h = x.generator(write(x, TRY, 1, 3, ADD, 60, 0, FROM, fails, 0, YIELD, 0, 0));
            due("what there is stays as it was", x.resume(h, 0), 60);
            due("k is on the STACK", x.stack(h, 0), k);
            int u = x.generator(write(x, FROM, fails, 0, YIELD, 0, 0));
            due("the outer one is FAILED with it", x.resume(u, 0), OVER - k);
        }
    }

    private static void fromWaits() {
        sentence("section 3", "What it gives by a YIELD is given by the outer one, which WAITS at the FROM");
        YieldMoor x = new YieldMoor();
        int inner = write(x, ADD, 3, 0, YIELD, 0, 0, YIELD, 0, 0);
        int g = x.generator(write(x, ADD, 60, 0, FROM, inner, 0, YIELD, 0, 0));
        due("given", x.resume(g, 0), 3);
        is(x, g, WAITING, 1, 60);
        is(x, 1, WAITING, 1, 3);
        due("given", x.resume(g, -999), -999);
        is(x, g, WAITING, 1, 60);
        is(x, 1, WAITING, 2, -999);
        due("INNER one", x.of(g, 6), 1);
        due("it has none", x.of(1, 6), NONE);
    }

    private static void fromAsDeepAsCanBe() {
        sentence("section 3", "all that is done to the outer one is done to the INNER one then");
        for (int how = 0; how < 3; how++) {
            YieldMoor x = new YieldMoor();
            int self = x.body();
            x.line(self, TRY, 0, 3);
            x.line(self, FROM, self, 0);
            x.line(self, RETURN, 0, 0);
            x.line(self, YIELD, 0, 0);
            int g = x.generator(self);
            due("the 25th can not be made", x.resume(g, 0), 4);
            for (int n = 0; n < 23; n++) {
                is(x, n, WAITING, 1, 0);
                due("INNER one", x.of(n, 6), n + 1);
            }
            is(x, 23, WAITING, 3, 4);
            if (how == 0) due("RESUMED", x.resume(g, 44), OVER);
            if (how == 1) due("THROWN into: caught by the 23rd, which YIELDS", x.raise(g, 7), 7);
            if (how == 2) due("CLOSED", x.close(g), 0);
            due("RETURNED", x.many(6), how == 1 ? 0 : 24);
            is(x, 23, how == 1 ? FAILED : RETURNED, NONE, new int[] {44, 7, 0}[how]);
            is(x, 22, how == 1 ? WAITING : RETURNED, how == 1 ? 3 : NONE, new int[] {44, 7, 0}[how]);
        }
    }

    private static void doneToTheInnerOne() {
        sentence("section 3", "all that is done to the outer one is done to the INNER one then");
        YieldMoor x = new YieldMoor();
        int inner = write(x, TRY, 0, 2, YIELD, 0, 0, YIELD, 0, 0, ADD, 1, 0);
        int outer = write(x, TRY, 0, 2, FROM, inner, 0, YIELD, 0, 0);
        int g = x.generator(outer);
        x.resume(g, 0);
        due("THROWN into, the INNER one catches it", x.raise(g, 5), 5);
        is(x, 1, WAITING, 2, 5);
        is(x, g, WAITING, 1, 0);
        due("RESUMED, the INNER one has the value", x.resume(g, 30), 31);
        is(x, g, WAITING, 2, 31);
    }

    private static void closedInnerIsReturned() {
        sentence("section 3", "If the outer one is CLOSED: the INNER one is CLOSED; then 10 is THROWN at the FROM");
        YieldMoor x = new YieldMoor();
        int plain = write(x, ADD, 4, 0, YIELD, 0, 0);
        int returns = write(x, TRY, 1, 2, YIELD, 0, 0, ADD, 4, 0);
        for (int inner : new int[] {plain, returns}) {
            int g = x.generator(write(x, TRY, 0, 3, TRY, 1, 3, FROM, inner, 0, YIELD, 0, 0));
            x.resume(g, 0);
            due("the outer one YIELDS", x.close(g), 8);
            is(x, g, WAITING, 3, 0);
            due("10 is on the STACK", x.stack(g, 1), 10);
            is(x, g + 1, RETURNED, NONE, inner == plain ? 0 : 4);
            due("none is INNER to it", x.of(g, 6), NONE);
            int h = x.generator(write(x, FROM, inner, 0));
            x.resume(h, 0);
            due("both are RETURNED", x.close(h), 0);
            is(x, h, RETURNED, NONE, 0);
            is(x, h + 1, RETURNED, NONE, inner == plain ? 0 : 4);
        }
    }

    private static void closedInnerIsTheFault() {
        sentence("section 3", "or 8, if that was a FAULT (the INNER one stays WAITING; it belongs to none any more)");
        YieldMoor x = new YieldMoor();
        int inner = write(x, TRY, 1, 2, YIELD, 0, 0, ADD, 4, 0, YIELD, 0, 0);
        int g = x.generator(write(x, TRY, 0, 2, FROM, inner, 0, ADD, 1, 0, YIELD, 0, 0));
        x.resume(g, 0);
        due("8 is caught, and the outer one YIELDS", x.close(g), 8);
        is(x, g, WAITING, 3, 9);
        is(x, 1, WAITING, 3, 4);
        due("it belongs to none", x.of(g, 6), NONE);
        due("it is INNER yet", x.of(1, 2), 2);
        throwsBounds("it is no GENERATOR", () -> x.resume(1, 0));
        due("the outer one goes on without it", x.resume(g, 30), OVER);
        is(x, 1, WAITING, 3, 4);
        int u = x.generator(write(x, FROM, inner, 0));
        x.resume(u, 0);
        due("8 is not caught", x.close(u), 8);
        is(x, u, FAILED, NONE, 8);
        int r = x.generator(write(x, TRY, 0, 12, FROM, inner, 0));
        x.resume(r, 0);
        due("8 is caught, and the outer one RETURNS", x.close(r), 0);
        is(x, r, RETURNED, NONE, 8);
    }

    private static void faultInTheMiddle() {
        sentence("section 3", "or 8, if that was a FAULT");
        YieldMoor x = new YieldMoor();
        int inmost = write(x, YIELD, 0, 0);
        int middle = write(x, TRY, 1, 2, FROM, inmost, 0, YIELD, 0, 0);
        int g = x.generator(write(x, TRY, 0, 2, FROM, middle, 0, YIELD, 0, 0));
        x.resume(g, 0);
        due("the FAULT of the one in the middle, then of the outer one", x.close(g), 8);
        is(x, g, WAITING, 2, 8);
        is(x, 1, WAITING, 2, 0);
        is(x, 2, RETURNED, NONE, 0);
        due("10 was THROWN in the middle", x.stack(1, 0), 10);
        due("none is INNER to the one in the middle", x.of(1, 6), NONE);
    }

    private static void faultWithAnInnerOneOfItsOwn() {
        sentence("section 3", "(the INNER one stays WAITING; it belongs to none any more)");
        YieldMoor x = new YieldMoor();
        int leaf = write(x, YIELD, 0, 0);
        int middle = write(x, TRY, 1, 2, YIELD, 0, 0, FROM, leaf, 0);
        int g = x.generator(write(x, FROM, middle, 0));
        x.resume(g, 0);
        due("its HANDLER has an INNER one, which YIELDS", x.close(g), 8);
        is(x, 1, WAITING, 2, 0);
        is(x, 2, WAITING, 0, 0);
        due("that belongs to it yet", x.of(1, 6), 2);
        due("but it to none", x.of(g, 6), NONE);
        is(x, g, FAILED, NONE, 8);
    }

    private static void closedInnerIsFailed() {
        sentence("section 3", "So it is also, if it is FAILED with another k by that: k is THROWN at the FROM.");
        for (int k = 1; k <= 7; k += 6) {
            YieldMoor x = new YieldMoor();
            int inner = write(x, TRY, 1, 2, YIELD, 0, 0, THROW, k, 0);
            int g = x.generator(write(x, TRY, 0, 2, FROM, inner, 0, YIELD, 0, 0));
            x.resume(g, 0);
            due("caught, and it YIELDS", x.close(g), 8);
            is(x, g, WAITING, 2, k);
            is(x, 1, FAILED, NONE, k);
            int u = x.generator(write(x, FROM, inner, 0));
            x.resume(u, 0);
            due("not caught", x.close(u), k);
            is(x, u, FAILED, NONE, k);
            int o = x.generator(write(x, TRY, 0, 12, FROM, 2, 0));
            x.resume(o, 0);
            due("caught by one that RETURNS", x.close(o), 0);
            is(x, o, RETURNED, NONE, k);
        }
    }

    private static void closedAndEightThenTen() {
        sentence("section 3", "if it is FAILED with 10 by that, it is RETURNED instead, with 0");
        YieldMoor x = new YieldMoor();
        int inner = write(x, TRY, 1, 2, YIELD, 0, 0, YIELD, 0, 0);
        int g = x.generator(write(x, TRY, 1, 2, YIELD, 0, 0, TRY, 0, 4, FROM, inner, 0, LAST, 0, 0));
        x.resume(g, 0);
        due("in its HANDLER it has an INNER one", x.close(g), 8);
        due("8 is caught, 10 THROWN again", x.close(g), 0);
        is(x, g, RETURNED, NONE, 0);
    }

    private static void threeInAGenerator() {
        sentence("section 3", "In a GENERATOR (and all that is INNER to it) SLEEP, AWAIT and SPAWN are THROWN 3");
        for (int[] line : new int[][] {{SLEEP, 1, 0}, {SLEEP, 9, 0}, {AWAIT, 0, 0}, {SPAWN, 0, 0}}) {
            YieldMoor x = new YieldMoor();
            int body = write(x, line);
            int outer = write(x, FROM, body, 0);
            int two = write(x, FROM, outer, 0);
            int caught = write(x, TRY, 0, 2, line[0], line[1], line[2], YIELD, 0, 0);
            int task = x.start(write(x, YIELD, 0, 0));
            due("in a GENERATOR", x.resume(x.generator(body), 0), OVER - 3);
            due("in what is INNER to it", x.resume(x.generator(outer), 0), OVER - 3);
            due("in what is INNER to that", x.resume(x.generator(two), 0), OVER - 3);
            due("caught", x.resume(x.generator(caught), 0), 3);
            due("TASKS", x.many(3), 1);
            is(x, task, NEW, NONE, 0);
        }
    }

    private static void threeGoesAhead() {
        sentence("section 3", "In a GENERATOR (and all that is INNER to it) SLEEP, AWAIT and SPAWN are THROWN 3");
        YieldMoor x = new YieldMoor();
        int over = x.start(x.body());
        x.run(1);
        due("a SPAWN of no BODY", x.resume(x.generator(write(x, SPAWN, 7, 0)), 0), OVER - 3);
        due("an AWAIT of no TASK", x.resume(x.generator(write(x, ADD, -1, 0, AWAIT, 0, 0)), 0), OVER - 3);
        due("an AWAIT of a TASK that is OVER", x.resume(x.generator(write(x, AWAIT, 0, 0)), 0), OVER - 3);
        is(x, over, RETURNED, NONE, 0);
        int spawns = write(x, SPAWN, 0, 0);
        while (x.many(1) < 24) x.generator(spawns);
        due("a SPAWN as there are 24", x.resume(23, 0), OVER - 3);
    }

    private static void shieldInAGenerator() {
        sentence("section 3", "In a GENERATOR (and all that is INNER to it) .. SHIELD does nothing");
        YieldMoor x = new YieldMoor();
        int shields = write(x, SHIELD, 1, 0, SHIELD, 0, 0, SHIELD, 0, 0, ADD, 8, 0, YIELD, 0, 0);
        int t = x.start(shields);
        int g = x.generator(shields);
        due("it goes on behind it", x.resume(g, 0), 8);
        due("in what is INNER to it", x.resume(x.generator(write(x, FROM, shields, 0)), 0), 8);
        due("no TASK's SHIELD", x.ofTask(t, 3), 0);
    }
}

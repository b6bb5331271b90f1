/** Promises 5 to 8: generator, resume, raise, close, with INNER ones too. */
public final class GeneratorsTest {
    private static final int OVER = -20000;

    public static void main(String[] args) {
        promise5();
        promise6();
        promise6Throws();
        promise7();
        promise7Throws();
        promise8();
        promise8Fault();
        inner();
        innerFails();
        innerCanNotBeMade();
        innerOfAGenerator();
        closeInner();
        closeInnerFault();
        closeInnerFails();
        closedWithTenByResume();
        Check.end("GeneratorsTest");
    }

    private static void promise5() {
        YieldMoor x = new YieldMoor();
        Check.throwsBounds("a GENERATOR without a BODY", () -> x.generator(0));
        int body = Check.write(x, Check.YIELD, 0, 0);
        for (int n = 0; n < 24; n++) Check.due("generator", x.generator(body), n);
        Check.throwsState("a 25th", () -> x.generator(body));
        Check.throwsBounds("a 25th of no BODY", () -> x.generator(1));
        Check.throwsBounds("generator(-1)", () -> x.generator(-1));
        Check.due("of(23, NEW)", x.of(23, 1), 0);
        Check.due("GENERATORS", x.many(2), 24);
    }

    private static void promise6() {
        YieldMoor x = new YieldMoor();
        int body = Check.write(x, Check.ADD, 5, 0, Check.YIELD, 0, 0, Check.ADD, 1, 0, Check.YIELD, 0, 0, Check.ADD, 2, 0);
        int g = x.generator(body);
        Check.due("the value is dropped as it is NEW", x.resume(g, 700), 5);
        Check.due("WAITING", x.of(g, 1), 1);
        Check.due("at the LINE", x.of(g, 3), 1);
        Check.due("what there is as it WAITS", x.of(g, 4), 5);
        Check.due("the most value", x.resume(g, 999), 1000);
        Check.due("the least value", x.resume(g, -999), OVER);
        Check.due("RETURNED", x.of(g, 1), 3);
        Check.due("with", x.of(g, 4), -997);
        int h = x.generator(Check.write(x, Check.YIELD, 0, 0, Check.TRY, 0, 12, Check.YIELD, 0, 0, Check.THROW, 2, 0));
        x.resume(h, 0);
        Check.due("what is given is told as it is", x.resume(h, -20), -20);
        Check.due("caught where no LINE is", x.resume(h, 0), OVER);
        Check.due("with 2", x.of(h, 4), 2);
    }

    private static void promise6Throws() {
        YieldMoor x = new YieldMoor();
        Check.throwsBounds("resume of none", () -> x.resume(0, 0));
        int body = Check.write(x, Check.YIELD, 0, 0);
        int g = x.generator(body);
        int task = x.start(body);
        int outer = x.generator(Check.write(x, Check.FROM, body, 0));
        x.resume(outer, 0);
        Check.throwsBounds("resume(-1)", () -> x.resume(-1, 0));
        Check.throwsBounds("resume of a TASK", () -> x.resume(task, 1000));
        Check.throwsBounds("resume of an INNER one", () -> x.resume(3, 0));
        Check.throwsBounds("resume(4)", () -> x.resume(4, 0));
        Check.throwsArgument("value 1000", () -> x.resume(g, 1000));
        Check.throwsArgument("value -1000", () -> x.resume(g, -1000));
        Check.due("it is NEW yet", x.of(g, 1), 0);
        x.resume(g, 0);
        x.resume(g, 0);
        Check.throwsState("resume as it is OVER", () -> x.resume(g, 0));
        Check.throwsArgument("a wrong value as it is OVER", () -> x.resume(g, 1000));
    }

    private static void promise7() {
        YieldMoor x = new YieldMoor();
        int body = Check.write(x, Check.TRY, 0, 3, Check.YIELD, 0, 0, Check.RETURN, 0, 0, Check.ADD, 10, 0,
            Check.YIELD, 0, 0);
        int g = x.generator(body);
        Check.due("THROWN as it is NEW", x.raise(g, 7), OVER - 7);
        Check.due("FAILED", x.of(g, 1), 4);
        Check.due("with 7", x.of(g, 4), 7);
        Check.due("no LINE was done", x.of(g, 7), 0);
        int h = x.generator(body);
        x.resume(h, 0);
        Check.due("caught", x.raise(h, 1), 11);
        Check.due("WAITS at", x.of(h, 3), 4);
        Check.due("not caught", x.raise(h, 6), OVER - 6);
        int r = x.generator(Check.write(x, Check.TRY, 1, 2, Check.YIELD, 0, 0, Check.ADD, 4, 0, Check.RETURN, 0, 0));
        x.resume(r, 0);
        Check.due("RETURNED by a HANDLER", x.raise(r, 2), OVER);
        Check.due("with", x.of(r, 4), 4);
    }

    private static void promise7Throws() {
        YieldMoor x = new YieldMoor();
        Check.throwsBounds("raise into none", () -> x.raise(0, 0));
        int body = Check.write(x, Check.YIELD, 0, 0);
        int g = x.generator(body);
        int task = x.start(body);
        Check.throwsBounds("raise into a TASK", () -> x.raise(task, 1));
        Check.throwsArgument("k 0", () -> x.raise(g, 0));
        Check.throwsArgument("k 8", () -> x.raise(g, 8));
        Check.throwsArgument("k MIN", () -> x.raise(g, Integer.MIN_VALUE));
        Check.due("it is NEW yet", x.of(g, 1), 0);
        x.raise(g, 3);
        Check.throwsState("raise as it is OVER", () -> x.raise(g, 1));
        Check.throwsArgument("a wrong k as it is OVER", () -> x.raise(g, 8));
    }

    private static void promise8() {
        YieldMoor x = new YieldMoor();
        Check.throwsBounds("close of none", () -> x.close(0));
        int body = Check.write(x, Check.TRY, 0, 3, Check.ADD, 6, 0, Check.YIELD, 0, 0, Check.YIELD, 0, 0);
        int g = x.generator(body);
        Check.due("close of a NEW one", x.close(g), 0);
        Check.due("RETURNED", x.of(g, 1), 3);
        Check.due("with 0", x.of(g, 4), 0);
        Check.due("close as it is OVER", x.close(g), 0);
        int h = x.generator(body);
        x.resume(h, 0);
        Check.due("a CATCH is not for 10", x.close(h), 0);
        Check.due("RETURNED", x.of(h, 1), 3);
        Check.due("with 0", x.of(h, 4), 0);
        Check.due("STACK", x.of(h, 5), 0);
        int task = x.start(body);
        Check.throwsBounds("close of a TASK", () -> x.close(task));
        int r = x.generator(Check.write(x, Check.TRY, 1, 3, Check.ADD, 6, 0, Check.YIELD, 0, 0, Check.ADD, 2, 0,
            Check.RETURN, 0, 0));
        x.resume(r, 0);
        Check.due("RETURNED by its HANDLER", x.close(r), 0);
        Check.due("with", x.of(r, 4), 8);
        int f = x.generator(Check.write(x, Check.TRY, 1, 2, Check.YIELD, 0, 0, Check.THROW, 4, 0));
        x.resume(f, 0);
        Check.due("FAILED by its HANDLER", x.close(f), 4);
        Check.due("FAILED", x.of(f, 1), 4);
        Check.due("close of a FAILED one", x.close(f), 0);
        Check.due("with 4", x.of(f, 4), 4);
        int l = x.generator(Check.write(x, Check.TRY, 1, 2, Check.YIELD, 0, 0, Check.ADD, 3, 0, Check.LAST, 0, 0));
        x.resume(l, 0);
        Check.due("10 again", x.close(l), 0);
        Check.due("RETURNED", x.of(l, 1), 3);
        Check.due("with 0", x.of(l, 4), 0);
    }

    private static void promise8Fault() {
        YieldMoor x = new YieldMoor();
        int g = x.generator(Check.write(x, Check.TRY, 1, 2, Check.YIELD, 0, 0, Check.ADD, 3, 0, Check.YIELD, 0, 0,
            Check.ADD, 20, 0, Check.LAST, 0, 0));
        x.resume(g, 0);
        Check.due("the FAULT", x.close(g), 8);
        Check.due("stays WAITING", x.of(g, 1), 1);
        Check.due("there", x.of(g, 3), 3);
        Check.due("10 on the STACK", x.stack(g, 0), 10);
        Check.due("CLOSED again", x.wouldClose(g), 0);
        Check.due("RESUMED", x.resume(g, 5), OVER - 10);
        Check.due("FAILED", x.of(g, 1), 4);
    }

    /** An INNER one that YIELDS 3, then what it was RESUMED with and 1, and RETURNS 2 more than the next value. */
    private static int giving(YieldMoor x) {
        return Check.write(x, Check.ADD, 3, 0, Check.YIELD, 0, 0, Check.ADD, 1, 0, Check.YIELD, 0, 0, Check.ADD, 2, 0);
    }

    private static void inner() {
        YieldMoor x = new YieldMoor();
        int body = giving(x);
        int g = x.generator(Check.write(x, Check.ADD, 50, 0, Check.FROM, body, 0, Check.ADD, 40, 0, Check.YIELD, 0, 0));
        Check.due("what the INNER one gives", x.resume(g, 9), 3);
        Check.due("INNER one", x.of(g, 6), 1);
        Check.due("it is INNER", x.of(1, 2), 2);
        Check.due("the outer one WAITS at the FROM", x.of(g, 3), 1);
        Check.due("what there is in the outer one", x.of(g, 4), 50);
        Check.due("the value is for the INNER one", x.resume(g, 70), 71);
        Check.due("the outer one goes on", x.resume(g, 5), 47);
        Check.due("the INNER one is RETURNED", x.of(1, 1), 3);
        Check.due("with", x.of(1, 4), 7);
        Check.due("none is INNER any more", x.of(g, 6), Check.NONE);
        Check.due("of the INNER one's INNER one", x.of(1, 6), Check.NONE);
        int deep = x.generator(Check.write(x, Check.FROM, x.body(), 0, Check.ADD, 1, 0, Check.FROM, 1, 0));
        Check.due("an INNER one in an INNER one", x.resume(deep, 0), 3);
        Check.due("THROWN into the inmost one", x.raise(deep, 5), OVER - 5);
        Check.due("all are FAILED", x.many(7), 3);
    }

    private static void innerFails() {
        YieldMoor x = new YieldMoor();
        int body = Check.write(x, Check.YIELD, 0, 0, Check.THROW, 6, 0);
        int g = x.generator(Check.write(x, Check.TRY, 0, 3, Check.FROM, body, 0, Check.RETURN, 0, 0, Check.ADD, 10, 0,
            Check.YIELD, 0, 0));
        x.resume(g, 0);
        Check.due("caught at the FROM", x.resume(g, 0), 16);
        Check.due("the INNER one is FAILED", x.of(1, 4), 6);
        Check.due("none is INNER", x.of(g, 6), Check.NONE);
        int h = x.generator(1);
        x.resume(h, 0);
        Check.due("THROWN into the INNER one, caught at the FROM", x.raise(h, 3), 13);
        Check.due("the INNER one is FAILED with it", x.of(3, 4), 3);
    }

    private static void innerCanNotBeMade() {
        YieldMoor x = new YieldMoor();
        int g = x.generator(Check.write(x, Check.TRY, 0, 2, Check.FROM, 7, 0, Check.YIELD, 0, 0));
        Check.due("no such BODY", x.resume(g, 0), 4);
        Check.due("LINES done", x.of(g, 7), 3);
        int self = x.body();
        x.line(self, Check.TRY, 0, 3);
        x.line(self, Check.FROM, self, 0);
        x.line(self, Check.RETURN, 0, 0);
        x.line(self, Check.YIELD, 0, 0);
        int h = x.generator(self);
        Check.due("as many as there can be", x.resume(h, 0), 4);
        Check.due("COROUTINES", x.many(1), 24);
        Check.due("WAITING", x.many(5), 24);
        Check.due("the inmost one WAITS", x.of(23, 3), 3);
        Check.due("the one next to it", x.of(22, 6), 23);
        Check.due("all go on", x.resume(h, 77), OVER);
        Check.due("with what the inmost one was RETURNED", x.of(h, 4), 77);
    }

    private static void innerOfAGenerator() {
        YieldMoor x = new YieldMoor();
        int body = Check.write(x, Check.SHIELD, 1, 0, Check.SLEEP, 1, 0);
        Check.due("SLEEP in what is INNER to a GENERATOR",
            x.resume(x.generator(Check.write(x, Check.FROM, body, 0)), 0), OVER - 3);
        int spawns = Check.write(x, Check.SPAWN, 0, 0);
        Check.due("SPAWN in what is INNER to it",
            x.resume(x.generator(Check.write(x, Check.FROM, spawns, 0)), 0), OVER - 3);
        int awaits = Check.write(x, Check.AWAIT, 0, 0);
        Check.due("AWAIT in what is INNER to it",
            x.resume(x.generator(Check.write(x, Check.FROM, awaits, 0)), 0), OVER - 3);
        Check.due("TASKS", x.many(3), 0);
    }

    private static void closeInner() {
        YieldMoor x = new YieldMoor();
        int body = Check.write(x, Check.TRY, 1, 3, Check.YIELD, 0, 0, Check.RETURN, 0, 0, Check.ADD, 5, 0,
            Check.RETURN, 0, 0);
        int g = x.generator(Check.write(x, Check.TRY, 1, 3, Check.FROM, body, 0, Check.RETURN, 0, 0, Check.YIELD, 0, 0));
        x.resume(g, 0);
        Check.due("the FAULT of the outer one alone", x.close(g), 8);
        Check.due("the INNER one is RETURNED", x.of(1, 1), 3);
        Check.due("with", x.of(1, 4), 5);
        Check.due("10 is THROWN at the FROM", x.stack(g, 0), 10);
        int h = x.generator(Check.write(x, Check.FROM, 0, 0));
        x.resume(h, 0);
        Check.due("both are CLOSED", x.close(h), 0);
        Check.due("RETURNED", x.many(6), 3);
    }

    private static void closeInnerFault() {
        YieldMoor x = new YieldMoor();
        int body = Check.write(x, Check.TRY, 1, 2, Check.YIELD, 0, 0, Check.YIELD, 0, 0, Check.LAST, 0, 0);
        int middle = Check.write(x, Check.TRY, 0, 3, Check.FROM, body, 0, Check.RETURN, 0, 0, Check.ADD, 10, 0);
        int outer = Check.write(x, Check.FROM, middle, 0);
        int g = x.generator(outer);
        x.resume(g, 0);
        Check.due("the FAULT is caught in the middle", x.close(g), 0);
        Check.due("the inmost one stays WAITING", x.of(2, 1), 1);
        Check.due("at", x.of(2, 3), 2);
        Check.due("it belongs to none", x.of(1, 6), Check.NONE);
        Check.due("the one in the middle is RETURNED with", x.of(1, 4), 18);
        Check.due("the outer one is RETURNED with", x.of(g, 4), 0);
        int h = x.generator(Check.write(x, Check.TRY, 0, 12, Check.FROM, body, 0));
        x.resume(h, 0);
        Check.due("8 is caught", x.close(h), 0);
        Check.due("there was 8", x.of(h, 4), 8);
        int k = x.generator(Check.write(x, Check.FROM, body, 0));
        x.resume(k, 0);
        Check.due("8 is not caught", x.close(k), 8);
        Check.due("FAILED", x.of(k, 1), 4);
        Check.due("with 8", x.of(k, 4), 8);
    }

    private static void closeInnerFails() {
        YieldMoor x = new YieldMoor();
        int body = Check.write(x, Check.TRY, 1, 2, Check.YIELD, 0, 0, Check.THROW, 3, 0);
        int g = x.generator(Check.write(x, Check.TRY, 0, 2, Check.FROM, body, 0, Check.ADD, 10, 0, Check.YIELD, 0, 0));
        x.resume(g, 0);
        Check.due("caught, and it YIELDS", x.close(g), 8);
        Check.due("what there is", x.of(g, 4), 13);
        Check.due("the INNER one", x.of(1, 4), 3);
        int h = x.generator(Check.write(x, Check.FROM, body, 0));
        x.resume(h, 0);
        Check.due("not caught", x.close(h), 3);
    }

    /** The WAY of 10 is on the STACK below a CATCH of 8: what ends it by CLOSE is 10 again. */
    private static void closedWithTenByResume() {
        YieldMoor x = new YieldMoor();
        int body = Check.write(x, Check.TRY, 1, 2, Check.YIELD, 0, 0, Check.YIELD, 0, 0);
        int g = x.generator(Check.write(x, Check.TRY, 1, 2, Check.YIELD, 0, 0, Check.TRY, 0, 4, Check.FROM, body, 0,
            Check.LAST, 0, 0));
        x.resume(g, 0);
        Check.due("the FAULT in the HANDLER", x.close(g), 8);
        Check.due("THROWN by CLOSE", x.wouldClose(g), 0);
        Check.due("8, then 10 again", x.close(g), 0);
        Check.due("RETURNED", x.of(g, 1), 3);
        Check.due("with 0", x.of(g, 4), 0);
        Check.due("the INNER one WAITS", x.of(1, 1), 1);
    }
}

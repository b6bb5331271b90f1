/** Promises 13 to 18: of, local, stack, ofTask, many, meanLines. */
public final class AskingTest {
    public static void main(String[] args) {
        promise13();
        promise13Ends();
        promise14();
        promise15();
        promise16();
        promise17();
        promise18();
        Check.end("AskingTest");
    }

    private static void ofIs(YieldMoor x, int coroutine, int... due) {
        for (int what = 0; what < due.length; what++) {
            Check.due("of(" + coroutine + ", " + what + ")", x.of(coroutine, what), due[what]);
        }
    }

    private static void ofTaskIs(YieldMoor x, int task, int... due) {
        for (int what = 0; what < due.length; what++) {
            Check.due("ofTask(" + task + ", " + what + ")", x.ofTask(task, what), due[what]);
        }
    }

    private static void promise13() {
        YieldMoor x = new YieldMoor();
        Check.throwsBounds("of none", () -> x.of(0, 0));
        x.body();
        int inner = Check.write(x, Check.TRY, 0, 3, Check.ADD, 4, 0, Check.YIELD, 0, 0);
        int outer = Check.write(x, Check.ADD, 2, 0, Check.ADD, 5, 0, Check.TRY, 1, 12, Check.TRY, 0, 12,
            Check.FROM, inner, 0);
        int g = x.generator(outer);
        int task = x.start(outer);
        ofIs(x, g, outer, 0, 0, -1, 0, 0, -1, 0);
        ofIs(x, task, outer, 0, 1, -1, 0, 0, -1, 0);
        x.resume(g, 0);
        ofIs(x, g, outer, 1, 0, 4, 7, 2, 2, 5);
        ofIs(x, 2, inner, 1, 2, 2, 4, 1, -1, 3);
        x.run(1);
        ofIs(x, task, outer, 1, 1, 4, 7, 2, 3, 5);
        x.resume(g, 55);
        ofIs(x, g, outer, 3, 0, -1, 55, 0, -1, 5);
        ofIs(x, 2, inner, 3, 2, -1, 55, 0, -1, 3);
        Check.throwsBounds("of(-1)", () -> x.of(-1, 0));
        Check.throwsBounds("of(4) ahead of a wrong what", () -> x.of(4, 8));
        Check.throwsArgument("what -1", () -> x.of(0, -1));
        Check.throwsArgument("what 8", () -> x.of(0, 8));
        Check.throwsArgument("what MIN", () -> x.of(0, Integer.MIN_VALUE));
    }

    private static void promise13Ends() {
        YieldMoor x = new YieldMoor();
        int body = Check.write(x, Check.ADD, 2, 0, Check.TRY, 0, 2, Check.YIELD, 0, 0, Check.THROW, 4, 0);
        int failed = x.generator(body);
        x.resume(failed, 0);
        x.resume(failed, 0);
        ofIs(x, failed, body, 1, 0, 2, 4, 0, -1, 5);
        x.resume(failed, 7);
        ofIs(x, failed, body, 4, 0, -1, 4, 0, -1, 6);
        int raised = x.generator(body);
        x.raise(raised, 3);
        ofIs(x, raised, body, 4, 0, -1, 3, 0, -1, 0);
        int closed = x.generator(body);
        x.close(closed);
        ofIs(x, closed, body, 3, 0, -1, 0, 0, -1, 0);
    }

    private static void promise14() {
        YieldMoor x = new YieldMoor();
        int body = Check.write(x, Check.YIELD, 0, 0, Check.PUT, 0, 0, Check.ADD, 1, 0, Check.PUT, 1, 0, Check.ADD, 1, 0,
            Check.PUT, 2, 0, Check.ADD, 1, 0, Check.PUT, 3, 0);
        int g = x.generator(body);
        int other = x.generator(body);
        x.resume(g, 0);
        for (int local = 0; local < 4; local++) Check.due("LOCAL at first", x.local(g, local), 0);
        x.resume(g, -999);
        for (int local = 0; local < 4; local++) Check.due("LOCAL as it is OVER", x.local(g, local), local - 999);
        for (int local = 0; local < 4; local++) Check.due("another's LOCAL", x.local(other, local), 0);
        Check.throwsBounds("LOCAL -1", () -> x.local(g, -1));
        Check.throwsBounds("LOCAL 4", () -> x.local(g, 4));
        Check.throwsBounds("COROUTINE -1", () -> x.local(-1, 0));
        Check.throwsBounds("COROUTINE 2", () -> x.local(2, 0));
        Check.throwsBounds("COROUTINE MAX", () -> x.local(Integer.MAX_VALUE, 0));
    }

    /** The places of all that can be on a STACK are in BlocksTest too. */
    private static void promise15() {
        YieldMoor x = new YieldMoor();
        int g = x.generator(Check.write(x, Check.TRY, 1, 4, Check.TRY, 0, 3, Check.YIELD, 0, 0, Check.YIELD, 0, 0));
        Check.throwsBounds("the STACK is empty", () -> x.stack(g, 0));
        x.resume(g, 0);
        Check.due("a FINALLY", x.stack(g, 0), -2);
        Check.due("a CATCH", x.stack(g, 1), -1);
        Check.throwsBounds("place 2", () -> x.stack(g, 2));
        x.raise(g, 5);
        Check.throwsBounds("the CATCH was taken off", () -> x.stack(g, 1));
        x.close(g);
        Check.throwsBounds("the STACK is empty as it is OVER", () -> x.stack(g, 0));
        int h = x.generator(Check.write(x, Check.TRY, 1, 2, Check.YIELD, 0, 0, Check.YIELD, 0, 0));
        x.resume(h, 0);
        x.close(h);
        Check.due("a THROWN one of 10", x.stack(h, 0), 10);
    }

    private static void promise16() {
        YieldMoor x = new YieldMoor();
        int child = Check.write(x, Check.SHIELD, 1, 0, Check.SLEEP, 4, 0);
        int parent = x.start(Check.write(x, Check.SPAWN, child, 0, Check.AWAIT, 0, 0));
        int g = x.generator(child);
        ofTaskIs(x, parent, 0, -1, -1, 0, 0, -1, 0);
        x.run(1);
        ofTaskIs(x, parent, -1, -1, 2, 0, 0, -1, 0);
        ofTaskIs(x, 2, 0, -1, -1, 0, 0, parent, 1);
        x.tick(3);
        x.run(1);
        x.cancel(2);
        ofTaskIs(x, 2, -1, 7, -1, 1, 1, parent, 1);
        x.tick(4);
        ofTaskIs(x, 2, 0, -1, -1, 1, 1, parent, 1);
        x.run(1);
        ofTaskIs(x, 2, -1, -1, -1, 1, 1, parent, 0);
        ofTaskIs(x, parent, 0, -1, -1, 0, 0, -1, 0);
        Check.throwsBounds("ofTask(-1)", () -> x.ofTask(-1, 0));
        Check.throwsBounds("ofTask(3)", () -> x.ofTask(3, 0));
        Check.throwsBounds("a GENERATOR, ahead of a wrong what", () -> x.ofTask(g, 7));
        Check.throwsArgument("what -1", () -> x.ofTask(parent, -1));
        Check.throwsArgument("what 7", () -> x.ofTask(parent, 7));
    }

    private static void promise17() {
        YieldMoor x = new YieldMoor();
        int inner = Check.write(x, Check.YIELD, 0, 0);
        int outer = Check.write(x, Check.FROM, inner, 0);
        int fails = Check.write(x, Check.ADD, 1, 0, Check.THROW, 1, 0);
        x.generator(inner);
        x.resume(x.generator(outer), 0);
        x.resume(x.generator(fails), 0);
        x.close(x.generator(outer));
        x.close(x.generator(outer));
        x.close(x.generator(outer));
        x.start(inner);
        x.start(fails);
        x.run(1);
        x.tick(13);
        manyIs(x, 3, 9, 6, 2, 2, 3, 3, 1, 2, 13, 5, 1);
        x.run(50);
        manyIs(x, 3, 9, 6, 2, 1, 2, 4, 2, 0, 13, 7, 3);
        Check.throwsArgument("what -1", () -> x.many(-1));
        Check.throwsArgument("what 12", () -> x.many(12));
        Check.throwsArgument("what MAX", () -> x.many(Integer.MAX_VALUE));
    }

    private static void manyIs(YieldMoor x, int... due) {
        for (int what = 0; what < due.length; what++) Check.due("many(" + what + ")", x.many(what), due[what]);
    }

    private static void promise18() {
        YieldMoor x = new YieldMoor();
        Check.that("0 without any", x.meanLines() == 0.0);
        int body = Check.write(x, Check.ADD, 1, 0, Check.YIELD, 0, 0, Check.YIELD, 0, 0);
        Check.that("0 without any, with a BODY", x.meanLines() == 0.0);
        int g = x.generator(body);
        Check.that("0 LINES", x.meanLines() == 0.0);
        x.resume(g, 0);
        Check.that("2 LINES", x.meanLines() == 2.0);
        x.generator(body);
        x.start(body);
        Check.that("2 LINES of 3", x.meanLines() == 2.0 / 3);
        x.wouldGive(g, 0);
        x.overIn(50);
        Check.that("what would be does not count", x.meanLines() == 2.0 / 3);
        x.run(1);
        Check.that("4 LINES of 3", x.meanLines() == 4.0 / 3);
    }
}

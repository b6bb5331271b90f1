/** Promises 9 to 12: start, run, tick, cancel, and what AWAIT does. */
public final class TasksTest {
    public static void main(String[] args) {
        promise9();
        promise10();
        promise10Yield();
        promise11();
        promise11Order();
        promise12();
        cancelAtTurn();
        cancelAtWait();
        cancelUnderShield();
        spawn();
        failedCancelsItsOwn();
        await();
        awaitAtOnce();
        awaitThrows();
        awaitCircle();
        awaitOrder();
        awaitNoMore();
        awaitIsNoWait();
        innerOfATask();
        tooLongInATask();
        Check.end("TasksTest");
    }

    private static void ready(YieldMoor x, int... due) {
        Check.due("READY ones", x.many(8), due.length);
        for (int place = 0; place < due.length; place++) {
            Check.due("place of TASK " + due[place], x.ofTask(due[place], 0), place);
        }
    }

    private static void promise9() {
        YieldMoor x = new YieldMoor();
        Check.throwsBounds("a TASK without a BODY", () -> x.start(0));
        int body = Check.write(x, Check.YIELD, 0, 0);
        for (int n = 0; n < 24; n++) Check.due("start", x.start(body), n);
        Check.throwsState("a 25th", () -> x.start(body));
        Check.throwsBounds("a 25th of no BODY", () -> x.start(1));
        Check.throwsBounds("start(-1)", () -> x.start(-1));
        Check.due("TASKS", x.many(3), 24);
        Check.due("NEW", x.many(4), 24);
        Check.due("the last one's place", x.ofTask(23, 0), 23);
        Check.due("none SPAWNED it", x.ofTask(0, 5), Check.NONE);
    }

    private static void promise10() {
        YieldMoor x = new YieldMoor();
        int body = Check.write(x, Check.YIELD, 0, 0, Check.ADD, 4, 0);
        Check.due("run without a TASK", x.run(1), 0);
        int a = x.start(body);
        int b = x.start(body);
        Check.throwsArgument("turns 0", () -> x.run(0));
        Check.throwsArgument("turns 51", () -> x.run(51));
        Check.throwsArgument("turns -1", () -> x.run(-1));
        Check.due("3 turns", x.run(3), 3);
        Check.due("the first one is RETURNED", x.of(a, 1), 3);
        Check.due("the other one WAITS", x.of(b, 1), 1);
        ready(x, b);
        Check.due("1 is left", x.run(50), 1);
        Check.due("turns", x.many(11), 4);
        Check.due("RETURNED with", x.of(b, 4), 4);
        Check.due("none is READY", x.run(50), 0);
    }

    private static void promise10Yield() {
        YieldMoor x = new YieldMoor();
        int body = Check.write(x, Check.ADD, 9, 0, Check.YIELD, 0, 0, Check.ADD, 1, 0, Check.SLEEP, 1, 0,
            Check.ADD, 2, 0);
        int a = x.start(body);
        int b = x.start(body);
        x.run(1);
        ready(x, b, a);
        Check.due("what there was", x.of(a, 4), 9);
        x.run(2);
        Check.due("0 behind a YIELD", x.of(a, 4), 1);
        Check.due("a SLEEPS till", x.ofTask(a, 1), 1);
        ready(x, b);
        x.run(1);
        x.tick(1);
        x.run(1);
        Check.due("0 behind a SLEEP", x.of(a, 4), 2);
    }

    private static void promise11() {
        YieldMoor x = new YieldMoor();
        Check.throwsArgument("ticks 0", () -> x.tick(0));
        Check.throwsArgument("ticks 21", () -> x.tick(21));
        Check.throwsArgument("ticks MIN", () -> x.tick(Integer.MIN_VALUE));
        Check.due("NOW", x.many(9), 0);
        Check.due("tick", x.tick(20), 0);
        Check.due("NOW", x.many(9), 20);
        int task = x.start(Check.write(x, Check.SLEEP, 9, 0));
        x.run(1);
        Check.due("SLEEPS till", x.ofTask(task, 1), 29);
        Check.due("too early", x.tick(8), 0);
        Check.due("not READY", x.ofTask(task, 0), Check.NONE);
        Check.due("in time", x.tick(1), 1);
        Check.due("SLEEPS no more", x.ofTask(task, 1), Check.NONE);
        Check.due("WAITS at, though READY", x.of(task, 3), 0);
        Check.due("once alone", x.tick(20), 0);
        ready(x, task);
    }

    private static void promise11Order() {
        YieldMoor x = new YieldMoor();
        int two = Check.write(x, Check.SLEEP, 2, 0);
        int one = Check.write(x, Check.SLEEP, 1, 0);
        int a = x.start(two);
        int b = x.start(one);
        int c = x.start(two);
        int d = x.start(one);
        x.run(4);
        Check.due("all 4 in 3 ticks", x.tick(3), 4);
        ready(x, b, d, a, c);
    }

    private static void promise12() {
        YieldMoor x = new YieldMoor();
        Check.throwsBounds("cancel of none", () -> x.cancel(0));
        int body = Check.write(x, Check.YIELD, 0, 0);
        int g = x.generator(body);
        int task = x.start(body);
        Check.throwsBounds("cancel of a GENERATOR", () -> x.cancel(g));
        Check.throwsBounds("cancel(-1)", () -> x.cancel(-1));
        Check.throwsBounds("cancel(2)", () -> x.cancel(2));
        Check.due("is not asked", x.ofTask(task, 4), 0);
        Check.due("the first time", x.cancel(task), true);
        Check.due("is asked", x.ofTask(task, 4), 1);
        Check.due("the second time", x.cancel(task), false);
        ready(x, task);
        x.run(1);
        Check.due("FAILED", x.of(task, 1), 4);
        Check.due("with 9", x.of(task, 4), 9);
        Check.due("is not asked any more", x.ofTask(task, 4), 0);
        Check.due("as it is OVER", x.cancel(task), false);
        Check.due("is not asked as it is OVER", x.ofTask(task, 4), 0);
        int plain = x.start(Check.write(x, Check.ADD, 2, 0));
        x.cancel(plain);
        x.run(1);
        Check.due("RETURNED without a wait", x.of(plain, 4), 2);
        Check.due("so it was never heeded", x.ofTask(plain, 4), 1);
    }

    private static void cancelAtTurn() {
        YieldMoor x = new YieldMoor();
        int sleeps = Check.write(x, Check.TRY, 1, 3, Check.ADD, 7, 0, Check.SLEEP, 5, 0, Check.PUT, 1, 0,
            Check.YIELD, 0, 0);
        int a = x.start(sleeps);
        int b = x.start(Check.write(x, Check.TRY, 1, 3, Check.ADD, 8, 0, Check.YIELD, 0, 0, Check.PUT, 1, 0));
        x.run(2);
        ready(x, b);
        x.cancel(a);
        ready(x, b, a);
        Check.due("SLEEPS no more", x.ofTask(a, 1), Check.NONE);
        Check.due("WAITS at the SLEEP yet", x.of(a, 3), 2);
        Check.due("no tick makes it READY again", x.tick(20), 0);
        x.cancel(b);
        ready(x, b, a);
        x.run(1);
        Check.due("with what there was at the YIELD", x.local(b, 1), 8);
        x.run(1);
        Check.due("with what there was at the SLEEP", x.local(a, 1), 7);
        Check.due("9 on the STACK", x.stack(a, 0), 9);
        Check.due("not asked, so it WAITS", x.of(a, 1), 1);
        Check.due("asked anew", x.cancel(a), true);
    }

    private static void cancelAtWait() {
        YieldMoor x = new YieldMoor();
        int task = x.start(Check.write(x, Check.TRY, 0, 3, Check.SHIELD, 0, 0, Check.SLEEP, 2, 0, Check.ADD, 20, 0,
            Check.YIELD, 0, 0));
        x.cancel(task);
        x.run(1);
        Check.due("9 instead of the SLEEP", x.of(task, 4), 29);
        Check.due("the next YIELD is none", x.of(task, 1), 1);
        Check.due("no SLEEP", x.ofTask(task, 1), Check.NONE);
        Check.due("LINES done", x.of(task, 7), 5);
        ready(x, task);
        int other = x.start(Check.write(x, Check.SPAWN, 0, 0, Check.AWAIT, 0, 0));
        x.run(1);
        x.cancel(other);
        x.run(1);
        Check.due("9 instead of the AWAIT", x.of(other, 4), 9);
        Check.due("none AWAITS", x.ofTask(2, 6), 0);
    }

    private static void cancelUnderShield() {
        YieldMoor x = new YieldMoor();
        int body = Check.write(x, Check.SHIELD, 0, 0, Check.SHIELD, 1, 0, Check.SHIELD, 1, 0, Check.SLEEP, 3, 0,
            Check.YIELD, 0, 0, Check.SHIELD, 0, 0, Check.YIELD, 0, 0, Check.SHIELD, 0, 0, Check.ADD, 1, 0,
            Check.PUT, 2, 0, Check.YIELD, 0, 0);
        int task = x.start(body);
        x.run(1);
        Check.due("SHIELD, never below 0", x.ofTask(task, 3), 2);
        Check.due("asked", x.cancel(task), true);
        Check.due("not READY by that", x.ofTask(task, 0), Check.NONE);
        Check.due("SLEEPS on", x.ofTask(task, 1), 3);
        Check.due("asked already", x.cancel(task), false);
        x.tick(3);
        x.run(2);
        Check.due("a YIELD under the SHIELD", x.of(task, 3), 6);
        Check.due("SHIELD", x.ofTask(task, 3), 1);
        x.run(1);
        Check.due("LINES behind the SHIELD", x.local(task, 2), 1);
        Check.due("9 at the next wait", x.of(task, 4), 9);
        Check.due("SHIELD", x.ofTask(task, 3), 0);
    }

    private static void spawn() {
        YieldMoor x = new YieldMoor();
        int child = Check.write(x, Check.YIELD, 0, 0);
        int task = x.start(Check.write(x, Check.SPAWN, child, 0, Check.PUT, 0, 0, Check.SPAWN, child, 0, Check.PUT, 1, 0,
            Check.YIELD, 0, 0));
        x.run(1);
        Check.due("the first one's number", x.local(task, 0), 1);
        Check.due("the second one's number", x.local(task, 1), 2);
        ready(x, 1, 2, task);
        Check.due("SPAWNED by", x.ofTask(2, 5), task);
        Check.due("it is NEW", x.of(2, 1), 0);
        Check.due("it is a TASK", x.of(2, 2), 1);
        int none = x.start(Check.write(x, Check.TRY, 0, 2, Check.SPAWN, 7, 0, Check.PUT, 0, 0));
        x.run(50);
        Check.due("no such BODY", x.local(none, 0), 4);
        int self = Check.write(x, Check.SPAWN, 3, 0, Check.YIELD, 0, 0);
        for (int n = x.many(1); n < 23; n++) x.generator(child);
        int full = x.start(self);
        x.run(1);
        Check.due("there are 24", x.of(full, 4), 4);
    }

    private static void failedCancelsItsOwn() {
        YieldMoor x = new YieldMoor();
        int sleeps = Check.write(x, Check.SLEEP, 9, 0);
        int yields = Check.write(x, Check.YIELD, 0, 0, Check.YIELD, 0, 0);
        int over = Check.write(x, Check.ADD, 1, 0);
        int awaits = Check.write(x, Check.ADD, 0, 0, Check.AWAIT, 0, 0);
        int parent = x.start(Check.write(x, Check.SPAWN, sleeps, 0, Check.SPAWN, yields, 0, Check.SPAWN, over, 0,
            Check.SPAWN, awaits, 0, Check.SPAWN, sleeps, 0, Check.SLEEP, 1, 0, Check.THROW, 6, 0));
        int other = x.start(awaits);
        int stranger = x.start(sleeps);
        x.run(8);
        x.tick(1);
        ready(x, 4, parent);
        x.run(1);
        ready(x, parent, 4);
        x.run(1);
        Check.due("FAILED with", x.of(parent, 4), 6);
        ready(x, 4, other, 6, 3, 7);
        Check.due("the one that SLEEPS is asked", x.ofTask(3, 4), 1);
        Check.due("the one that YIELDED is asked", x.ofTask(4, 4), 1);
        Check.due("the one that is OVER is not", x.ofTask(5, 4), 0);
        Check.due("the one that AWAITED is asked", x.ofTask(6, 4), 1);
        Check.due("another is not", x.ofTask(other, 4), 0);
        Check.due("one that it did not SPAWN is not", x.ofTask(stranger, 4), 0);
        x.run(50);
        Check.due("9 for the one that was SPAWNED", x.of(6, 4), 9);
        Check.due("6 for the one that was not", x.of(other, 4), 6);
        Check.due("the stranger SLEEPS on", x.ofTask(stranger, 1), 9);
        YieldMoor y = new YieldMoor();
        int child = Check.write(y, Check.SLEEP, 9, 0);
        y.start(Check.write(y, Check.SPAWN, child, 0, Check.YIELD, 0, 0));
        y.run(50);
        Check.due("a RETURNED one cancels none", y.ofTask(1, 4), 0);
        Check.due("it SLEEPS on", y.ofTask(1, 1), 9);
    }

    private static void await() {
        YieldMoor x = new YieldMoor();
        int child = Check.write(x, Check.SLEEP, 1, 0, Check.ADD, 33, 0);
        int fails = Check.write(x, Check.SLEEP, 1, 0, Check.THROW, 7, 0);
        int a = x.start(Check.write(x, Check.SPAWN, child, 0, Check.AWAIT, 0, 0, Check.ADD, 1, 0));
        int b = x.start(Check.write(x, Check.SPAWN, fails, 0, Check.AWAIT, 0, 0, Check.ADD, 1, 0));
        x.run(4);
        Check.due("a AWAITS", x.ofTask(a, 2), 2);
        Check.due("b AWAITS", x.ofTask(b, 2), 3);
        Check.due("how many AWAIT it", x.ofTask(2, 6), 1);
        Check.due("a WAITS at", x.of(a, 3), 1);
        Check.due("what there is as it AWAITS", x.of(a, 4), 2);
        x.tick(1);
        x.run(2);
        ready(x, a, b);
        Check.due("a AWAITS no more", x.ofTask(a, 2), Check.NONE);
        Check.due("none AWAITS it", x.ofTask(2, 6), 0);
        Check.due("a WAITS at the LINE yet", x.of(a, 3), 1);
        x.run(2);
        Check.due("with what it was RETURNED, and 1", x.of(a, 4), 34);
        Check.due("FAILED with what is THROWN", x.of(b, 4), 7);
        Check.due("FAILED", x.of(b, 1), 4);
    }

    private static void awaitAtOnce() {
        YieldMoor x = new YieldMoor();
        int over = x.start(Check.write(x, Check.ADD, 5, 0));
        int failed = x.start(Check.write(x, Check.THROW, 2, 0));
        int a = x.start(Check.write(x, Check.AWAIT, 0, 0, Check.ADD, 1, 0));
        int b = x.start(Check.write(x, Check.ADD, 1, 0, Check.AWAIT, 0, 0));
        x.run(3);
        Check.due("RETURNED", x.of(over, 4), 5);
        Check.due("FAILED", x.of(failed, 4), 2);
        Check.due("in one turn", x.of(a, 4), 6);
        x.run(1);
        Check.due("THROWN in one turn", x.of(b, 4), 2);
        Check.due("turns", x.many(11), 4);
    }

    private static void awaitThrows() {
        YieldMoor x = new YieldMoor();
        int g = x.generator(Check.write(x, Check.YIELD, 0, 0));
        int of0 = x.start(Check.write(x, Check.AWAIT, 0, 0));
        int own = x.start(Check.write(x, Check.ADD, 2, 0, Check.AWAIT, 0, 0));
        int none = x.start(Check.write(x, Check.ADD, -1, 0, Check.AWAIT, 0, 0));
        int beyond = x.start(Check.write(x, Check.ADD, 99, 0, Check.AWAIT, 0, 0));
        x.run(4);
        Check.due("AWAIT of a GENERATOR", x.of(of0, 4), 6);
        Check.due("AWAIT of the own one", x.of(own, 4), 6);
        Check.due("AWAIT of -1", x.of(none, 4), 6);
        Check.due("AWAIT of 99", x.of(beyond, 4), 6);
        Check.due("the GENERATOR", x.of(g, 1), 0);
        YieldMoor y = new YieldMoor();
        int inner = Check.write(y, Check.AWAIT, 0, 0);
        y.start(Check.write(y, Check.FROM, inner, 0));
        y.run(1);
        Check.due("the own one, from what is INNER to it", y.of(0, 4), 6);
    }

    private static void awaitCircle() {
        YieldMoor x = new YieldMoor();
        int a = x.start(Check.write(x, Check.ADD, 1, 0, Check.AWAIT, 0, 0));
        int b = x.start(Check.write(x, Check.ADD, 2, 0, Check.AWAIT, 0, 0));
        int c = x.start(Check.write(x, Check.TRY, 0, 2, Check.AWAIT, 0, 0, Check.SLEEP, 1, 0));
        x.run(3);
        Check.due("caught", x.of(c, 4), 2);
        Check.due("it SLEEPS", x.ofTask(c, 1), 1);
        Check.due("a AWAITS", x.ofTask(a, 2), b);
        Check.due("b AWAITS", x.ofTask(b, 2), c);
        x.tick(1);
        x.run(50);
        Check.due("all are RETURNED", x.many(6), 3);
        Check.due("a has what c RETURNED", x.of(a, 4), 0);
    }

    private static void awaitOrder() {
        YieldMoor x = new YieldMoor();
        int awaited = Check.write(x, Check.SLEEP, 2, 0);
        int late = Check.write(x, Check.YIELD, 0, 0, Check.AWAIT, 0, 0);
        int soon = Check.write(x, Check.AWAIT, 0, 0);
        int a = x.start(awaited);
        int b = x.start(late);
        int c = x.start(soon);
        int d = x.start(soon);
        int e = x.start(Check.write(x, Check.ADD, 1, 0, Check.AWAIT, 0, 0));
        x.run(50);
        Check.due("AWAIT it", x.ofTask(a, 6), 3);
        x.cancel(d);
        Check.due("AWAIT it", x.ofTask(a, 6), 2);
        x.tick(2);
        ready(x, d, a);
        x.run(2);
        ready(x, c, b);
        Check.due("e AWAITS b yet", x.ofTask(e, 2), b);
    }

    /** One that was asked to be CANCELLED AWAITS no more, so a way to it is no circle. */
    private static void awaitNoMore() {
        YieldMoor x = new YieldMoor();
        int a = x.start(Check.write(x, Check.ADD, 1, 0, Check.AWAIT, 0, 0));
        int b = x.start(Check.write(x, Check.YIELD, 0, 0, Check.AWAIT, 0, 0));
        x.run(1);
        x.run(1);
        x.cancel(a);
        x.run(1);
        Check.due("b AWAITS a", x.ofTask(b, 2), a);
        x.run(1);
        Check.due("a is FAILED with 9", x.of(a, 4), 9);
        x.run(1);
        Check.due("so is b", x.of(b, 4), 9);
    }

    private static void awaitIsNoWait() {
        YieldMoor x = new YieldMoor();
        int over = x.start(Check.write(x, Check.ADD, 5, 0));
        x.run(1);
        int a = x.start(Check.write(x, Check.AWAIT, 0, 0, Check.PUT, 0, 0, Check.TRY, 0, 5, Check.ADD, 90, 0,
            Check.AWAIT, 0, 0, Check.PUT, 1, 0, Check.YIELD, 0, 0));
        x.cancel(a);
        x.run(1);
        Check.due("OVER", x.of(over, 1), 3);
        Check.due("AWAIT of one that is OVER is no wait", x.local(a, 0), 5);
        Check.due("nor is what AWAIT THROWS", x.local(a, 1), 6);
        Check.due("but the YIELD is", x.of(a, 4), 9);
    }

    private static void innerOfATask() {
        YieldMoor x = new YieldMoor();
        int inner = Check.write(x, Check.SHIELD, 1, 0, Check.YIELD, 0, 0, Check.ADD, 3, 0, Check.SHIELD, 0, 0,
            Check.SLEEP, 2, 0, Check.SPAWN, 2, 0, Check.AWAIT, 0, 0, Check.ADD, 4, 0);
        int outer = Check.write(x, Check.ADD, 50, 0, Check.FROM, inner, 0, Check.ADD, 1, 0);
        int child = Check.write(x, Check.YIELD, 0, 0, Check.ADD, 10, 0);
        int task = x.start(outer);
        x.run(1);
        Check.due("a YIELD in what is INNER", x.of(1, 3), 1);
        Check.due("the outer one WAITS", x.of(task, 3), 1);
        Check.due("the TASK's SHIELD", x.ofTask(task, 3), 1);
        ready(x, task);
        x.run(1);
        Check.due("0 for the INNER one", x.of(1, 4), 3);
        Check.due("not for the outer one", x.of(task, 4), 50);
        Check.due("the TASK SLEEPS", x.ofTask(task, 1), 2);
        x.tick(2);
        x.run(1);
        Check.due("SPAWNED by the TASK", x.ofTask(2, 5), task);
        Check.due("the TASK AWAITS", x.ofTask(task, 2), 2);
        x.run(3);
        Check.due("of the child's BODY", x.of(2, 0), child);
        Check.due("RETURNED with", x.of(task, 4), 15);
        int cancelled = x.start(outer);
        x.run(2);
        x.cancel(cancelled);
        x.run(1);
        Check.due("9 in the INNER one", x.of(4, 4), 9);
        Check.due("9 in the TASK", x.of(cancelled, 4), 9);
        Check.throwsBounds("an INNER one is no TASK", () -> x.cancel(4));
    }

    private static void tooLongInATask() {
        YieldMoor x = new YieldMoor();
        int endless = Check.write(x, Check.GET, 0, 0, Check.ADD, 1, 0, Check.PUT, 0, 0, Check.LOOP, 0, 0);
        int a = x.start(endless);
        int b = x.start(Check.write(x, Check.AWAIT, 0, 0));
        int c = x.start(endless);
        x.run(3);
        Check.due("FAILED with 11", x.of(a, 4), 11);
        Check.due("9 instead of 11", x.of(b, 4), 9);
        Check.due("LINES are counted anew each turn", x.of(c, 7), 200);
        Check.due("LINES ever", x.many(10), 401);
    }
}

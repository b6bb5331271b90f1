/** Section 5, sentence by sentence: what AWAIT THROWS, has at once, or waits for. */
public final class Section5EdgesTest extends Check {
    private static final int WAITING = 1, RETURNED = 3, FAILED = 4;

    public static void main(String[] args) {
        noSuchTask();
        noTaskOfAnotherSort();
        theOwnOne();
        theFirstAndTheLastTask();
        returnedAtOnce();
        failedAtOnce();
        nineInsteadOfElevenAtOnce();
        aNewOneIsAwaited();
        circleOfTwo();
        circleFromWithin();
        circleAsLongAsCanBe();
        noCircle();
        noCircleAsOneIsReadyAgain();
        inTheOrderInWhichTheyBegan();
        theOrderAnew();
        awaitNoMore();
        atTheirTurn();
        overBetweenAwakeAndTurn();
        aheadOfThoseThatItSpawned();
        cancelledAtTheirTurn();
        Check.end("Section5EdgesTest");
    }

    private static void is(YieldMoor x, int coroutine, int state, int line, int there) {
        due("of(" + coroutine + ", 1)", x.of(coroutine, 1), state);
        due("of(" + coroutine + ", 3)", x.of(coroutine, 3), line);
        due("of(" + coroutine + ", 4)", x.of(coroutine, 4), there);
    }

    private static void ready(YieldMoor x, int... due) {
        due("READY ones", x.many(8), due.length);
        for (int place = 0; place < due.length; place++) {
            due("the place of the TASK " + due[place], x.ofTask(due[place], 0), place);
        }
    }

    /** A BODY that AWAITS the TASK of this number. */
    private static int awaiting(YieldMoor x, int task) {
        return write(x, ADD, task, 0, AWAIT, 0, 0);
    }

    private static void noSuchTask() {
        sentence("section 5", "what there is, is the number of a TASK: THROWN 6, if there is no such one (or it is the own "
            + "one)");
        for (int there : new int[] {-99, -1, 1, 2, 23, 24, 99}) {
            YieldMoor x = new YieldMoor();
            int t = x.start(awaiting(x, there));
            x.run(1);
            is(x, t, FAILED, NONE, 6);
            due("AWAITS", x.ofTask(t, 2), NONE);
            int caught = x.start(write(x, TRY, 0, 3, ADD, -1, 0, AWAIT, 0, 0, YIELD, 0, 0));
            x.run(1);
            is(x, caught, WAITING, 3, 6);
        }
    }

    private static void noTaskOfAnotherSort() {
        sentence("section 5", "what there is, is the number of a TASK: THROWN 6, if there is no such one");
        YieldMoor x = new YieldMoor();
        int leaf = write(x, YIELD, 0, 0);
        int outer = write(x, FROM, leaf, 0);
        int g = x.generator(outer);
        x.resume(g, 0);
        x.start(outer);
        x.run(1);
        for (int n = 0; n <= 3; n++) {
            if (n == 2) continue;
            int t = x.start(awaiting(x, n));
            x.run(2);
            is(x, t, FAILED, NONE, 6);
        }
    }

    private static void theOwnOne() {
        sentence("section 5", "THROWN 6, if there is no such one (or it is the own one)");
        YieldMoor x = new YieldMoor();
        int t = x.start(write(x, AWAIT, 0, 0));
        x.run(1);
        is(x, t, FAILED, NONE, 6);
        int inner = write(x, ADD, 1, 0, AWAIT, 0, 0);
        int outer = x.start(write(x, FROM, inner, 0));
        x.run(1);
        is(x, 2, FAILED, NONE, 6);
        is(x, outer, FAILED, NONE, 6);
    }

    private static void theFirstAndTheLastTask() {
        sentence("section 5", "AWAIT: what there is, is the number of a TASK");
        YieldMoor x = new YieldMoor();
        int last = awaiting(x, 23);
        int first = awaiting(x, 0);
        int sleeps = write(x, SLEEP, 1, 0, ADD, 5, 0);
        x.start(sleeps);
        x.start(first);
        x.start(last);
        while (x.many(1) < 23) x.generator(first);
        x.start(sleeps);
        x.run(50);
        due("AWAITS the TASK 0", x.ofTask(1, 2), 0);
        due("AWAITS the TASK 23", x.ofTask(2, 2), 23);
        x.tick(1);
        x.run(50);
        is(x, 1, RETURNED, NONE, 5);
        is(x, 2, RETURNED, NONE, 5);
    }

    private static void returnedAtOnce() {
        sentence("section 5", "If that is RETURNED, there is what it was RETURNED with then, .. so it is at once, without a "
            + "wait.");
        YieldMoor x = new YieldMoor();
        x.start(x.body());
        x.start(write(x, ADD, -99, 0));
        x.start(write(x, ADD, 4, 0, TRY, 1, 3, RETURN, 0, 0, ADD, 50, 0, LAST, 0, 0));
        x.run(3);
        int[] due = {0, -99, 4};
        for (int n = 0; n < 3; n++) {
            int t = x.start(write(x, ADD, n, 0, AWAIT, 0, 0, PUT, 0, 0));
            due("one turn", x.run(50), 1);
            is(x, t, RETURNED, NONE, due[n]);
            due("the LOCAL", x.local(t, 0), due[n]);
        }
    }

    private static void failedAtOnce() {
        sentence("section 5", "if it is FAILED with k, k is THROWN .. so it is at once, without a wait");
        for (int k = 1; k <= 7; k += 6) {
            YieldMoor x = new YieldMoor();
            x.start(write(x, THROW, k, 0));
            int t = x.start(write(x, AWAIT, 0, 0));
            int caught = x.start(write(x, TRY, 0, 2, AWAIT, 0, 0, ADD, 50, 0));
            int handled = x.start(write(x, TRY, 1, 2, AWAIT, 0, 0, YIELD, 0, 0));
            due("turns", x.run(4), 4);
            is(x, t, FAILED, NONE, k);
            is(x, caught, RETURNED, NONE, k + 50);
            is(x, handled, WAITING, 2, 0);
            due("k is on the STACK", x.stack(handled, 0), k);
        }
        YieldMoor x = new YieldMoor();
        int cancelled = x.start(write(x, YIELD, 0, 0));
        int t = x.start(write(x, YIELD, 0, 0, AWAIT, 0, 0));
        x.cancel(cancelled);
        x.run(50);
        is(x, cancelled, FAILED, NONE, 9);
        is(x, t, FAILED, NONE, 9);
    }

    /** A TASK that is FAILED with 11. */
    private static int endless(YieldMoor x) {
        return x.start(write(x, GET, 0, 0, ADD, 1, 0, PUT, 0, 0, LOOP, 0, 0));
    }

    private static void nineInsteadOfElevenAtOnce() {
        sentence("section 5", "k is THROWN (9 instead of 10 or 11)");
        YieldMoor x = new YieldMoor();
        endless(x);
        int t = x.start(write(x, AWAIT, 0, 0));
        int caught = x.start(write(x, TRY, 0, 2, AWAIT, 0, 0, YIELD, 0, 0));
        x.run(3);
        is(x, 0, FAILED, NONE, 11);
        is(x, t, FAILED, NONE, 9);
        is(x, caught, WAITING, 2, 9);
    }

    private static void aNewOneIsAwaited() {
        sentence("section 5", "Otherwise it WAITS");
        YieldMoor x = new YieldMoor();
        int t = x.start(awaiting(x, 1));
        int other = x.start(write(x, YIELD, 0, 0, ADD, 6, 0));
        due("a turn", x.run(1), 1);
        is(x, t, WAITING, 1, 1);
        due("it AWAITS a NEW one", x.ofTask(t, 2), other);
        ready(x, other);
        x.run(1);
        ready(x, other);
        due("it AWAITS one that is READY again", x.ofTask(t, 2), other);
        x.run(2);
        is(x, t, RETURNED, NONE, 6);
    }

    private static void circleOfTwo() {
        sentence("section 5", "but if that one WAITS at an AWAIT for a TASK that does, and so on, up to the own one, THROWN "
            + "2 instead");
        YieldMoor x = new YieldMoor();
        int a = x.start(awaiting(x, 1));
        int b = x.start(awaiting(x, 0));
        x.run(2);
        is(x, b, FAILED, NONE, 2);
        due("b AWAITS", x.ofTask(b, 2), NONE);
        ready(x, a);
        x.run(1);
        is(x, a, FAILED, NONE, 2);
    }

    private static void circleFromWithin() {
        sentence("section 5", "up to the own one, THROWN 2 instead");
        YieldMoor x = new YieldMoor();
        int first = awaiting(x, 1);
        int second = awaiting(x, 0);
        x.start(write(x, FROM, first, 0));
        int b = x.start(write(x, FROM, second, 0));
        x.run(1);
        due("the TASK AWAITS, though it is its INNER one that does", x.ofTask(0, 2), b);
        is(x, 0, WAITING, 0, 0);
        is(x, 2, WAITING, 1, 1);
        x.run(1);
        is(x, 3, FAILED, NONE, 2);
        is(x, b, FAILED, NONE, 2);
    }

    /** Each TASK SPAWNS the next one and AWAITS it; the one that can not, as there are 24, AWAITS the first one. */
    private static void circleAsLongAsCanBe() {
        sentence("section 5", "WAITS at an AWAIT for a TASK that does, and so on, up to the own one");
        for (int tasks = 2; tasks <= 24; tasks++) {
            YieldMoor x = new YieldMoor();
            int self = x.body();
            x.line(self, PUT, 0, 0);
            x.line(self, TRY, 0, 5);
            x.line(self, SPAWN, self, 0);
            x.line(self, AWAIT, 0, 0);
            x.line(self, RETURN, 0, 0);
            x.line(self, GET, 0, 0);
            x.line(self, AWAIT, 0, 0);
            int idle = x.body();
            int t = x.start(self);
            while (x.many(1) < 24 - tasks + 1) x.generator(idle);
            due("each AWAITS the next one, but for the last", x.run(tasks - 1), tasks - 1);
            due("the last one, which can not SPAWN, AWAITS the first one", x.run(1), 1);
            is(x, 23, FAILED, NONE, 2);
            due("what was THROWN ahead of that is 4", x.of(23, 7), 5);
            due("AWAITS", x.ofTask(23, 2), NONE);
            due("the first one AWAITS yet, but for a chain of 2", x.ofTask(t, 2), tasks == 2 ? NONE : 24 - tasks + 1);
        }
    }

    private static void noCircle() {
        sentence("section 5", "and so on, up to the own one, THROWN 2 instead");
        YieldMoor x = new YieldMoor();
        x.start(awaiting(x, 1));
        x.start(awaiting(x, 2));
        x.start(write(x, SLEEP, 1, 0, ADD, 5, 0));
        x.start(write(x, AWAIT, 0, 0));
        x.start(awaiting(x, 3));
        x.run(50);
        int[] due = {1, 2, NONE, 0, 3};
        for (int n = 0; n < 5; n++) due("which the TASK " + n + " AWAITS", x.ofTask(n, 2), due[n]);
        x.tick(1);
        due("each has its turn", x.run(50), 5);
        for (int n = 0; n < 5; n++) is(x, n, RETURNED, NONE, 5);
    }

    private static void noCircleAsOneIsReadyAgain() {
        sentence("section 5", "if that one WAITS at an AWAIT for a TASK that does");
        YieldMoor x = new YieldMoor();
        int a = x.start(awaiting(x, 1));
        int b = x.start(write(x, YIELD, 0, 0, AWAIT, 0, 0));
        x.run(2);
        x.cancel(a);
        ready(x, b, a);
        x.run(1);
        due("no circle as a is READY again", x.ofTask(b, 2), a);
        x.run(1);
        is(x, a, FAILED, NONE, 9);
    }

    private static void inTheOrderInWhichTheyBegan() {
        sentence("section 5", "As a TASK is OVER, those who AWAIT it are put at the end of the READY ones, in the order in "
            + "which they began to WAIT");
        YieldMoor x = new YieldMoor();
        int late = write(x, YIELD, 0, 0, AWAIT, 0, 0);
        int soon = write(x, AWAIT, 0, 0);
        int t = x.start(write(x, SLEEP, 1, 0));
        int c = x.start(late);
        int a = x.start(soon);
        int other = x.start(awaiting(x, 2));
        int b = x.start(soon);
        x.run(50);
        due("they AWAIT it", x.ofTask(t, 6), 3);
        x.tick(1);
        int last = x.start(soon);
        x.run(1);
        ready(x, last, a, b, c);
        due("none AWAITS it", x.ofTask(t, 6), 0);
        due("another AWAITS another one yet", x.ofTask(other, 2), a);
        x.run(2);
        ready(x, b, c, other);
    }

    private static void theOrderAnew() {
        sentence("section 5", "in the order in which they began to WAIT");
        YieldMoor x = new YieldMoor();
        x.start(write(x, SLEEP, 9, 0));
        int again = x.start(write(x, TRY, 0, 2, AWAIT, 0, 0, GET, 0, 0, AWAIT, 0, 0));
        int b = x.start(write(x, AWAIT, 0, 0));
        x.run(3);
        x.cancel(again);
        x.run(1);
        due("it AWAITS again", x.ofTask(again, 2), 0);
        x.tick(9);
        x.run(1);
        ready(x, b, again);
    }

    private static void awaitNoMore() {
        sentence("section 5", "and AWAIT it no more");
        YieldMoor x = new YieldMoor();
        int t = x.start(write(x, SLEEP, 1, 0));
        int a = x.start(write(x, AWAIT, 0, 0));
        x.run(2);
        due("it AWAITS", x.ofTask(a, 2), t);
        x.tick(1);
        due("yet, as the other one is READY", x.ofTask(a, 2), t);
        x.run(1);
        due("it AWAITS", x.ofTask(a, 2), NONE);
        due("none AWAITS it", x.ofTask(t, 6), 0);
        is(x, a, WAITING, 0, 0);
    }

    private static void atTheirTurn() {
        sentence("section 5", "at their turn there is what is said above, or k is THROWN");
        int[][] ends = {{ADD, 33, 0}, {THROW, 1, 0}, {THROW, 7, 0}, {LOOP, 0, 0}};
        for (int[] end : ends) {
            YieldMoor x = new YieldMoor();
            x.start(write(x, SLEEP, 1, 0, end[0], end[1], end[2]));
            int a = x.start(write(x, AWAIT, 0, 0, ADD, 50, 0));
            int caught = x.start(write(x, TRY, 0, 3, AWAIT, 0, 0, RETURN, 0, 0, ADD, 60, 0));
            x.run(50);
            x.tick(1);
            x.run(1);
            is(x, a, WAITING, 0, 0);
            is(x, caught, WAITING, 1, 0);
            x.run(2);
            boolean fails = end[0] == THROW;
            int with = end[0] == ADD ? 33 : end[1];
            is(x, a, fails ? FAILED : RETURNED, NONE, fails ? with : with + 50);
            is(x, caught, RETURNED, NONE, fails ? with + 60 : with);
        }
        YieldMoor x = new YieldMoor();
        endless(x);
        int a = x.start(write(x, SLEEP, 1, 0, AWAIT, 0, 0));
        YieldMoor y = new YieldMoor();
        y.start(write(y, SLEEP, 1, 0, GET, 0, 0, ADD, 1, 0, PUT, 0, 0, LOOP, 0, 1));
        int b = y.start(write(y, TRY, 0, 2, AWAIT, 0, 0, YIELD, 0, 0));
        y.run(2);
        y.tick(1);
        y.run(2);
        is(y, 0, FAILED, NONE, 11);
        is(y, b, WAITING, 2, 9);
        x.run(2);
        x.tick(1);
        x.run(1);
        is(x, a, FAILED, NONE, 9);
    }

    private static void overBetweenAwakeAndTurn() {
        sentence("section 5", "those who AWAIT it are put at the end of the READY ones, .. at their turn there is what is "
            + "said above");
        YieldMoor x = new YieldMoor();
        int inner = write(x, AWAIT, 0, 0, ADD, 1, 0);
        int t = x.start(write(x, SLEEP, 1, 0, ADD, 33, 0));
        int a = x.start(write(x, ADD, 70, 0, FROM, inner, 0, ADD, 1, 0));
        x.run(2);
        x.tick(1);
        due("2 turns", x.run(50), 2);
        is(x, t, RETURNED, NONE, 33);
        is(x, 2, RETURNED, NONE, 34);
        is(x, a, RETURNED, NONE, 35);
    }

    private static void aheadOfThoseThatItSpawned() {
        sentence("section 5", "(That is ahead of what a FAILED one does to those that it SPAWNED.)");
        YieldMoor x = new YieldMoor();
        int sleeps = write(x, SLEEP, 9, 0);
        int awaits = write(x, AWAIT, 0, 0);
        int t = x.start(write(x, SPAWN, sleeps, 0, SPAWN, awaits, 0, SPAWN, sleeps, 0, YIELD, 0, 0, YIELD, 0, 0,
            THROW, 5, 0));
        int stranger = x.start(awaits);
        x.run(6);
        due("both AWAIT it", x.ofTask(t, 6), 2);
        x.run(1);
        is(x, t, FAILED, NONE, 5);
        ready(x, stranger, 3, 2, 4);
        x.run(4);
        is(x, stranger, FAILED, NONE, 5);
        is(x, 3, FAILED, NONE, 9);
        is(x, 2, FAILED, NONE, 9);
        is(x, 4, FAILED, NONE, 9);
    }

    private static void cancelledAtTheirTurn() {
        sentence("section 5", "at their turn there is what is said above, or k is THROWN");
        YieldMoor x = new YieldMoor();
        x.start(write(x, SLEEP, 1, 0, ADD, 33, 0));
        int a = x.start(write(x, TRY, 1, 2, AWAIT, 0, 0, PUT, 3, 0, YIELD, 0, 0));
        int shielded = x.start(write(x, SHIELD, 1, 0, AWAIT, 0, 0, SHIELD, 0, 0, PUT, 3, 0, YIELD, 0, 0));
        x.run(3);
        x.tick(1);
        x.run(1);
        x.cancel(a);
        x.cancel(shielded);
        ready(x, a, shielded);
        x.run(1);
        due("9 ahead of that, with what there was", x.local(a, 3), 0);
        due("9 is on the STACK", x.stack(a, 0), 9);
        x.run(1);
        due("under a SHIELD there is that", x.local(shielded, 3), 33);
        is(x, shielded, FAILED, NONE, 9);
    }
}

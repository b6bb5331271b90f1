/** Section 4, sentence by sentence: READY ones, turns, SLEEP, CANCEL, SHIELD, SPAWN and NOW. */
public final class Section4EdgesTest extends Check {
    private static final int NEW = 0, WAITING = 1, RETURNED = 3, FAILED = 4;

    public static void main(String[] args) {
        atTheEndOfTheReadyOnes();
        theFirstIsTakenOff();
        twentyFourReadyOnes();
        zeroBehindAWait();
        yieldInATurn();
        sleepTill();
        sleepInOneTurn();
        cancelAsATurnBegins();
        cancelOfANewOne();
        cancelAtAWait();
        cancelWithWhatThereWas();
        notAskedAnyMore();
        cancelUnderAShield();
        shieldTakenAwayBetweenWaits();
        whatAwaitThrowsIsNoWait();
        fromIsNoWait();
        spawn();
        spawnCanNotBeMade();
        shield();
        cancelOfOneThatIsOver();
        cancelOfOneThatSleeps();
        cancelOfOneThatAwaits();
        cancelOfOneThatIsReady();
        failedCancelsByNumbers();
        failedCancelsNoneThatIsOver();
        returnedCancelsNone();
        failedCancelsUnderAShield();
        spawnedByAnInnerOne();
        nowAtFirst();
        awakeByNumbers();
        Check.end("Section4EdgesTest");
    }

    private static void is(YieldMoor x, int coroutine, int state, int line, int there) {
        due("of(" + coroutine + ", 1)", x.of(coroutine, 1), state);
        due("of(" + coroutine + ", 3)", x.of(coroutine, 3), line);
        due("of(" + coroutine + ", 4)", x.of(coroutine, 4), there);
    }

    private static void ready(YieldMoor x, int... due) {
        due("READY ones", x.many(8), due.length);
        for (int place = 0; place < due.length; place++) {
            due("the place of the TASK " + due[place], x.ofTask(due[place], 0), place);
        }
    }

    private static void atTheEndOfTheReadyOnes() {
        sentence("section 4", "A TASK is put at the end of the READY ones as it is started, or SPAWNED.");
        YieldMoor x = new YieldMoor();
        int empty = x.body();
        int spawns = write(x, SPAWN, empty, 0, SPAWN, empty, 0);
        x.start(spawns);
        x.start(empty);
        x.generator(empty);
        x.start(empty);
        ready(x, 0, 1, 3);
        x.run(1);
        ready(x, 1, 3, 4, 5);
    }

    private static void theFirstIsTakenOff() {
        sentence("section 4", "A turn: the first of these is taken off, and goes on");
        YieldMoor x = new YieldMoor();
        due("a turn without a TASK", x.run(1), 0);
        due("turns", x.many(11), 0);
        int empty = x.body();
        x.start(empty);
        x.start(empty);
        due("a turn", x.run(1), 1);
        is(x, 0, RETURNED, NONE, 0);
        is(x, 1, NEW, NONE, 0);
        ready(x, 1);
        due("the place of one that is OVER", x.ofTask(0, 0), NONE);
        due("the last one", x.run(2), 1);
        due("turns", x.many(11), 2);
        ready(x);
    }

    private static void twentyFourReadyOnes() {
        sentence("section 4", "A TASK is put at the end of the READY ones");
        YieldMoor x = new YieldMoor();
        int body = write(x, YIELD, 0, 0, SLEEP, 1, 0);
        for (int n = 0; n < 24; n++) x.start(body);
        due("the last one's place", x.ofTask(23, 0), 23);
        due("a turn of each", x.run(24), 24);
        due("READY ones", x.many(8), 24);
        due("the last one's place", x.ofTask(23, 0), 23);
        due("a turn of each", x.run(50), 24);
        ready(x);
        due("all are awake", x.tick(1), 24);
        due("the last one's place", x.ofTask(23, 0), 23);
        due("a turn of each", x.run(50), 24);
        due("RETURNED", x.many(6), 24);
    }

    private static void zeroBehindAWait() {
        sentence("section 4", "goes on (with 0 as what there is then, if it WAITED at a YIELD or SLEEP)");
        YieldMoor x = new YieldMoor();
        int t = x.start(write(x, ADD, 9, 0, YIELD, 0, 0, PUT, 0, 0, ADD, 8, 0, SLEEP, 1, 0, PUT, 1, 0, ADD, 1, 0,
            AWAIT, 0, 0, PUT, 2, 0, ADD, 1, 0, PUT, 3, 0));
        x.start(write(x, SLEEP, 2, 0, ADD, 44, 0));
        x.run(2);
        is(x, t, WAITING, 1, 9);
        x.run(1);
        due("behind a YIELD", x.local(t, 0), 0);
        is(x, t, WAITING, 4, 8);
        x.tick(1);
        is(x, t, WAITING, 4, 8);
        x.run(1);
        due("behind a SLEEP", x.local(t, 1), 0);
        is(x, t, WAITING, 7, 1);
        x.tick(1);
        x.run(2);
        due("not behind an AWAIT", x.local(t, 2), 44);
    }

    private static void yieldInATurn() {
        sentence("section 4", "at a YIELD it is put at the end of the READY ones");
        YieldMoor x = new YieldMoor();
        int leaf = write(x, YIELD, 0, 0);
        x.start(write(x, FROM, leaf, 0));
        x.start(leaf);
        x.start(x.body());
        x.run(1);
        ready(x, 1, 2, 0);
        x.run(1);
        ready(x, 2, 0, 1);
        YieldMoor y = new YieldMoor();
        y.start(write(y, YIELD, 0, 0));
        due("as the only one it has both turns", y.run(2), 2);
        is(y, 0, RETURNED, NONE, 0);
    }

    private static void sleepTill() {
        sentence("section 4", "at a SLEEP it WAITS till NOW is a more");
        for (int a = 1; a <= 9; a += 8) {
            for (int now = 0; now <= 20; now += 20) {
                YieldMoor x = new YieldMoor();
                int t = x.start(write(x, SLEEP, a, 0, YIELD, 0, 0));
                if (now > 0) x.tick(now);
                x.run(1);
                due("the NOW at which it is over", x.ofTask(t, 1), now + a);
                ready(x);
                if (a > 1) due("one too early", x.tick(a - 1), 0);
                ready(x);
                due("no turn is done", x.run(50), 0);
                due("then it is over", x.tick(1), 1);
                ready(x, t);
                due("it SLEEPS no more", x.ofTask(t, 1), NONE);
                due("once alone", x.tick(20), 0);
                ready(x, t);
            }
        }
    }

    private static void sleepInOneTurn() {
        sentence("section 4", "till it is OVER, or comes to a wait, in it or in what is INNER to it");
        YieldMoor x = new YieldMoor();
        int leaf = write(x, SLEEP, 9, 0, ADD, 5, 0);
        int t = x.start(write(x, FROM, leaf, 0, FROM, leaf, 0, ADD, 1, 0));
        due("a turn", x.run(50), 1);
        due("the TASK SLEEPS", x.ofTask(t, 1), 9);
        is(x, t, WAITING, 0, 0);
        is(x, 1, WAITING, 0, 0);
        due("awake", x.tick(9), 1);
        due("a turn", x.run(50), 1);
        due("the next INNER one", x.of(t, 6), 2);
        due("the TASK SLEEPS", x.ofTask(t, 1), 18);
        x.tick(9);
        x.run(50);
        is(x, t, RETURNED, NONE, 6);
    }

    private static void cancelAsATurnBegins() {
        sentence("section 4", "If it was asked to be CANCELLED, and its SHIELD is 0, then as its turn begins (unless it is "
            + "NEW) .. 9 is THROWN there instead");
        YieldMoor x = new YieldMoor();
        int yields = x.start(write(x, ADD, 5, 0, YIELD, 0, 0, PUT, 0, 0));
        int leaf = write(x, ADD, 5, 0, YIELD, 0, 0, PUT, 0, 0);
        int outer = x.start(write(x, TRY, 0, 2, FROM, leaf, 0, YIELD, 0, 0));
        x.run(2);
        x.cancel(yields);
        x.cancel(outer);
        x.run(1);
        is(x, yields, FAILED, NONE, 9);
        due("LINES done", x.of(yields, 7), 2);
        x.run(1);
        is(x, 2, FAILED, NONE, 9);
        is(x, outer, WAITING, 2, 9);
    }

    private static void cancelOfANewOne() {
        sentence("section 4", "as its turn begins (unless it is NEW)");
        YieldMoor x = new YieldMoor();
        int returns = x.start(write(x, ADD, 5, 0));
        int yields = x.start(write(x, TRY, 0, 3, ADD, 5, 0, YIELD, 0, 0, YIELD, 0, 0));
        x.cancel(returns);
        x.cancel(yields);
        is(x, returns, NEW, NONE, 0);
        ready(x, returns, yields);
        x.run(2);
        is(x, returns, RETURNED, NONE, 5);
        due("it came to no wait, so it is asked yet", x.ofTask(returns, 4), 1);
        is(x, yields, WAITING, 3, 9);
        due("LINES done", x.of(yields, 7), 4);
    }

    private static void cancelAtAWait() {
        sentence("section 4", "or as it would come to a wait, 9 is THROWN there instead");
        for (int[] line : new int[][] {{YIELD, 0, 0}, {SLEEP, 1, 0}, {AWAIT, 0, 0}}) {
            YieldMoor x = new YieldMoor();
            x.start(write(x, SLEEP, 9, 0));
            x.run(1);
            int body = write(x, line);
            int t = x.start(body);
            int outer = x.start(write(x, FROM, body, 0));
            int caught = x.start(write(x, TRY, 0, 2, line[0], line[1], line[2], SLEEP, 9, 0));
            for (int n = t; n <= caught; n++) x.cancel(n);
            due("turns", x.run(50), 3);
            is(x, t, FAILED, NONE, 9);
            is(x, outer, FAILED, NONE, 9);
            is(x, caught + 1, FAILED, NONE, 9);
            is(x, caught, WAITING, 2, 9);
            due("the one that AWAITS the TASK 0", x.ofTask(0, 6), 0);
            due("NOW at which its SLEEP is over", x.ofTask(t, 1), NONE);
            due("LINES done, that one too", x.of(t, 7), 1);
            ready(x);
        }
    }

    private static void cancelWithWhatThereWas() {
        sentence("section 4", "9 is THROWN there instead, with what there was");
        YieldMoor x = new YieldMoor();
        x.start(write(x, SLEEP, 9, 0));
        x.start(x.body());
        x.run(2);
        for (int[] line : new int[][] {{YIELD, 0, 0}, {SLEEP, 1, 0}, {AWAIT, 0, 0}}) {
            int there = line[0] == AWAIT ? 0 : 70;
            int body = write(x, TRY, 1, 3, ADD, there, 0, line[0], line[1], line[2], PUT, 1, 0, SLEEP, 9, 0);
            int begins = x.start(body);
            int comes = x.start(body);
            x.cancel(comes);
            x.run(1);
            is(x, begins, WAITING, 2, there);
            x.cancel(begins);
            x.run(2);
            is(x, begins, WAITING, 4, there);
            due("as its turn began", x.local(begins, 1), there);
            due("9 is on the STACK", x.stack(begins, 0), 9);
            is(x, comes, WAITING, 4, there);
            due("as it came to a wait", x.local(comes, 1), there);
            due("9 is on the STACK", x.stack(comes, 0), 9);
        }
    }

    private static void notAskedAnyMore() {
        sentence("section 4", "(and it is not asked any more)");
        YieldMoor x = new YieldMoor();
        int body = write(x, TRY, 0, 2, YIELD, 0, 0, TRY, 0, 4, YIELD, 0, 0, YIELD, 0, 0);
        int t = x.start(body);
        x.run(1);
        due("the first time", x.cancel(t), true);
        x.run(1);
        due("it is asked", x.ofTask(t, 4), 0);
        is(x, t, WAITING, 3, 9);
        due("anew", x.cancel(t), true);
        x.run(1);
        is(x, t, WAITING, 4, 9);
        x.run(1);
        is(x, t, RETURNED, NONE, 0);
        int u = x.start(body);
        x.cancel(u);
        x.run(1);
        due("it is asked", x.ofTask(u, 4), 0);
        is(x, u, WAITING, 3, 9);
        ready(x, u);
    }

    private static void cancelUnderAShield() {
        sentence("section 4", "If it was asked to be CANCELLED, and its SHIELD is 0");
        YieldMoor x = new YieldMoor();
        int body = write(x, SHIELD, 1, 0, YIELD, 0, 0, SLEEP, 1, 0, SHIELD, 0, 0, ADD, 6, 0, YIELD, 0, 0);
        int t = x.start(body);
        x.cancel(t);
        x.run(1);
        is(x, t, WAITING, 1, 0);
        due("it is asked yet", x.ofTask(t, 4), 1);
        x.run(1);
        is(x, t, WAITING, 2, 0);
        due("it SLEEPS", x.ofTask(t, 1), 1);
        due("asked already", x.cancel(t), false);
        ready(x);
        x.tick(1);
        x.run(1);
        is(x, t, FAILED, NONE, 9);
        due("it was at the second YIELD", x.of(t, 7), 6);
        YieldMoor y = new YieldMoor();
        int twice = y.start(write(y, SHIELD, 1, 0, SHIELD, 1, 0, SHIELD, 0, 0, YIELD, 0, 0));
        y.cancel(twice);
        y.run(1);
        is(y, twice, WAITING, 3, 0);
        due("a SHIELD of 1 is above 0", y.ofTask(twice, 3), 1);
    }

    private static void shieldTakenAwayBetweenWaits() {
        sentence("section 4", "as its turn begins (unless it is NEW), or as it would come to a wait");
        YieldMoor x = new YieldMoor();
        int t = x.start(write(x, SHIELD, 1, 0, YIELD, 0, 0, SHIELD, 0, 0, ADD, 7, 0, PUT, 0, 0));
        x.cancel(t);
        x.run(2);
        is(x, t, RETURNED, NONE, 7);
        due("without a wait it goes on", x.local(t, 0), 7);
    }

    private static void whatAwaitThrowsIsNoWait() {
        sentence("section 4", "(What AWAIT THROWS by section 5 is no wait.)");
        YieldMoor x = new YieldMoor();
        x.start(write(x, THROW, 7, 0));
        x.run(1);
        int circle = x.start(write(x, ADD, 2, 0, AWAIT, 0, 0));
        int t = x.start(write(x, TRY, 0, 3, ADD, -1, 0, AWAIT, 0, 0, PUT, 0, 0, TRY, 0, 6, THROW, 1, 0, AWAIT, 0, 0));
        is(x, circle, NEW, NONE, 0);
        x.run(1);
        due("the circle's first one AWAITS", x.ofTask(circle, 2), t);
        x.cancel(t);
        x.run(1);
        due("6, not 9", x.local(t, 0), 6);
        is(x, t, FAILED, NONE, 2);
        due("2, not 9, so it is asked yet", x.ofTask(t, 4), 1);
        int fails = x.start(write(x, AWAIT, 0, 0));
        x.cancel(fails);
        x.run(50);
        is(x, fails, FAILED, NONE, 7);
        due("7, not 9, so it is asked yet", x.ofTask(fails, 4), 1);
    }

    private static void fromIsNoWait() {
        sentence("section 4", "or as it would come to a wait, 9 is THROWN there instead");
        YieldMoor x = new YieldMoor();
        int plain = write(x, ADD, 5, 0);
        int yields = write(x, TRY, 1, 3, ADD, 5, 0, YIELD, 0, 0, PUT, 0, 0);
        int t = x.start(write(x, FROM, plain, 0, FROM, yields, 0));
        x.cancel(t);
        x.run(1);
        is(x, 1, RETURNED, NONE, 5);
        is(x, 2, RETURNED, NONE, 5);
        due("9 was THROWN in the INNER one", x.local(2, 0), 5);
        is(x, t, RETURNED, NONE, 5);
        due("it is not asked any more", x.ofTask(t, 4), 0);
    }

    private static void spawn() {
        sentence("section 4", "SPAWN: a new TASK of the BODY a; there is its number then");
        YieldMoor x = new YieldMoor();
        int self = x.body();
        x.line(self, ADD, 50, 0);
        x.line(self, SPAWN, self, 0);
        x.line(self, PUT, 3, 0);
        int t = x.start(self);
        x.run(1);
        is(x, t, RETURNED, NONE, 1);
        due("the number", x.local(t, 3), 1);
        is(x, 1, NEW, NONE, 0);
        due("SPAWNED by", x.ofTask(1, 5), t);
        ready(x, 1);
        due("each SPAWNS the next one, but for the 24th", x.run(50), 23);
        is(x, 22, RETURNED, NONE, 23);
        is(x, 23, FAILED, NONE, 4);
    }

    private static void spawnCanNotBeMade() {
        sentence("section 4", "THROWN 4, if there is no such BODY, or there are 24");
        YieldMoor x = new YieldMoor();
        int t = x.start(write(x, TRY, 0, 2, SPAWN, 1, 0, PUT, 0, 0));
        x.run(1);
        due("the BODY that would be the next one", x.local(t, 0), 4);
        due("TASKS", x.many(3), 1);
        due("READY ones", x.many(8), 0);
        int seven = write(x, SPAWN, 7, 0);
        while (x.many(0) < 7) x.body();
        int none = x.start(seven);
        x.run(1);
        is(x, none, FAILED, NONE, 4);
        x.body();
        int there = x.start(seven);
        x.run(1);
        is(x, there, RETURNED, NONE, 3);
        due("its BODY", x.of(3, 0), 7);
    }

    private static void shield() {
        sentence("section 4", "the SHIELD of the TASK (0 at first) is 1 more (a 1), or 1 less, if it is above 0 (a 0)");
        YieldMoor x = new YieldMoor();
        int leaf = write(x, SHIELD, 1, 0, SHIELD, 1, 0, YIELD, 0, 0);
        int t = x.start(write(x, YIELD, 0, 0, SHIELD, 0, 0, YIELD, 0, 0, SHIELD, 1, 0, YIELD, 0, 0, SHIELD, 0, 0,
            SHIELD, 0, 0, YIELD, 0, 0, FROM, leaf, 0, SHIELD, 0, 0, YIELD, 0, 0));
        int[] due = {0, 0, 1, 0, 2, 1};
        due("of a NEW one", x.ofTask(t, 3), 0);
        for (int i = 0; i < due.length; i++) {
            x.run(1);
            due("SHIELD behind the turn " + i, x.ofTask(t, 3), due[i]);
        }
        int other = x.start(leaf);
        due("another's SHIELD", x.ofTask(other, 3), 0);
        x.run(50);
        due("it stays as it is OVER", x.ofTask(t, 3), 1);
    }

    private static void cancelOfOneThatIsOver() {
        sentence("section 4", "To CANCEL a TASK that is not OVER: it is asked to be.");
        YieldMoor x = new YieldMoor();
        int returned = x.start(x.body());
        int failed = x.start(write(x, THROW, 3, 0));
        x.run(2);
        for (int n = returned; n <= failed; n++) {
            due("cancel as it is OVER", x.cancel(n), false);
            due("it is asked", x.ofTask(n, 4), 0);
        }
        is(x, failed, FAILED, NONE, 3);
        ready(x);
        int fresh = x.start(0);
        due("cancel as it is NEW", x.cancel(fresh), true);
        due("it is asked", x.ofTask(fresh, 4), 1);
    }

    private static void cancelOfOneThatSleeps() {
        sentence("section 4", "If it WAITS at a SLEEP or AWAIT, and its SHIELD is 0, it is put at the end of the READY ones "
            + "at once, and does not wait for that any more.");
        YieldMoor x = new YieldMoor();
        int t = x.start(write(x, ADD, 7, 0, SLEEP, 3, 0));
        int shielded = x.start(write(x, SHIELD, 1, 0, SLEEP, 3, 0));
        x.run(2);
        int last = x.start(x.body());
        x.cancel(t);
        x.cancel(shielded);
        ready(x, last, t);
        due("it SLEEPS no more", x.ofTask(t, 1), NONE);
        is(x, t, WAITING, 1, 7);
        due("under a SHIELD it SLEEPS on", x.ofTask(shielded, 1), 3);
        due("asked again", x.cancel(t), false);
        ready(x, last, t);
        due("awake is the other one alone", x.tick(3), 1);
        ready(x, last, t, shielded);
        x.run(3);
        is(x, t, FAILED, NONE, 9);
        is(x, shielded, RETURNED, NONE, 0);
    }

    private static void cancelOfOneThatAwaits() {
        sentence("section 4", "If it WAITS at a SLEEP or AWAIT, and its SHIELD is 0, it is put at the end of the READY ones "
            + "at once, and does not wait for that any more.");
        YieldMoor x = new YieldMoor();
        int sleeps = x.start(write(x, SLEEP, 1, 0, ADD, 5, 0));
        int t = x.start(write(x, AWAIT, 0, 0));
        int shielded = x.start(write(x, SHIELD, 1, 0, AWAIT, 0, 0));
        x.run(3);
        due("they AWAIT it", x.ofTask(sleeps, 6), 2);
        x.cancel(t);
        x.cancel(shielded);
        ready(x, t);
        due("AWAITS no more", x.ofTask(t, 2), NONE);
        due("under a SHIELD it AWAITS on", x.ofTask(shielded, 2), sleeps);
        due("they AWAIT it", x.ofTask(sleeps, 6), 1);
        x.tick(1);
        ready(x, t, sleeps);
        x.run(2);
        ready(x, shielded);
        is(x, t, FAILED, NONE, 9);
        x.run(1);
        is(x, shielded, RETURNED, NONE, 5);
    }

    private static void cancelOfOneThatIsReady() {
        sentence("section 4", "If it WAITS at a SLEEP or AWAIT, and its SHIELD is 0, it is put at the end of the READY ones "
            + "at once");
        YieldMoor x = new YieldMoor();
        int over = x.start(write(x, YIELD, 0, 0, ADD, 5, 0));
        int awaits = x.start(write(x, AWAIT, 0, 0));
        int sleeps = x.start(write(x, SLEEP, 1, 0));
        int yields = x.start(write(x, YIELD, 0, 0));
        int fresh = x.start(x.body());
        x.run(4);
        ready(x, fresh, over, yields);
        x.run(2);
        x.tick(1);
        x.start(4);
        ready(x, yields, awaits, sleeps, 5);
        for (int n = awaits; n <= yields; n++) due("cancel of one that is READY", x.cancel(n), true);
        due("cancel of a NEW one", x.cancel(5), true);
        ready(x, yields, awaits, sleeps, 5);
        x.run(4);
        is(x, awaits, FAILED, NONE, 9);
        is(x, sleeps, FAILED, NONE, 9);
        is(x, yields, FAILED, NONE, 9);
        is(x, 5, RETURNED, NONE, 0);
    }

    private static void failedCancelsByNumbers() {
        sentence("section 4", "As a TASK is FAILED, each TASK that it SPAWNED and that is not OVER is CANCELLED, by "
            + "numbers.");
        YieldMoor x = new YieldMoor();
        int sleeps = write(x, SLEEP, 9, 0);
        int later = write(x, YIELD, 0, 0, SLEEP, 9, 0);
        int t = x.start(write(x, SPAWN, later, 0, SPAWN, sleeps, 0, SPAWN, later, 0, SPAWN, sleeps, 0, YIELD, 0, 0,
            THROW, 3, 0));
        int other = x.start(sleeps);
        x.run(6);
        ready(x, t, 2, 4);
        due("TASK 3 SLEEPS", x.ofTask(3, 1), 9);
        x.run(1);
        is(x, t, FAILED, NONE, 3);
        ready(x, 2, 4, 3, 5);
        due("one that it did not SPAWN", x.ofTask(other, 4), 0);
        for (int n = 2; n <= 5; n++) due("it is asked", x.ofTask(n, 4), 1);
        x.run(50);
        for (int n = 2; n <= 5; n++) is(x, n, FAILED, NONE, 9);
        YieldMoor y = new YieldMoor();
        write(y, YIELD, 0, 0, SLEEP, 9, 0);
        write(y, SLEEP, 9, 0);
        y.start(write(y, SPAWN, 0, 0, SPAWN, 1, 0, YIELD, 0, 0, YIELD, 0, 0, THROW, 3, 0));
        y.run(5);
        ready(y, 0);
        y.run(1);
        ready(y, 1, 2);
    }

    private static void failedCancelsNoneThatIsOver() {
        sentence("section 4", "each TASK that it SPAWNED and that is not OVER is CANCELLED");
        YieldMoor x = new YieldMoor();
        int empty = x.body();
        int grand = write(x, SPAWN, 2, 0, SLEEP, 9, 0);
        int sleeps = write(x, SLEEP, 9, 0);
        int t = x.start(write(x, SPAWN, empty, 0, SPAWN, grand, 0, YIELD, 0, 0, THROW, 3, 0));
        x.run(5);
        is(x, t, FAILED, NONE, 3);
        due("one that is OVER is asked", x.ofTask(1, 4), 0);
        due("one that is not is asked", x.ofTask(2, 4), 1);
        due("what that one SPAWNED is not yet", x.ofTask(3, 4), 0);
        due("its BODY", x.of(3, 0), sleeps);
        x.run(1);
        is(x, 2, FAILED, NONE, 9);
        due("as that is FAILED it is", x.ofTask(3, 4), 1);
        YieldMoor y = new YieldMoor();
        int child = write(y, YIELD, 0, 0);
        y.start(write(y, SPAWN, child, 0, THROW, 3, 0));
        y.run(1);
        due("a NEW one is asked", y.ofTask(1, 4), 1);
        due("it is READY once", y.many(8), 1);
        due("one turn", y.run(50), 1);
        is(y, 1, FAILED, NONE, 9);
    }

    private static void returnedCancelsNone() {
        sentence("section 4", "As a TASK is FAILED, each TASK that it SPAWNED ..");
        YieldMoor x = new YieldMoor();
        int sleeps = write(x, SLEEP, 9, 0);
        int t = x.start(write(x, SPAWN, sleeps, 0, YIELD, 0, 0));
        x.run(50);
        is(x, t, RETURNED, NONE, 0);
        due("it is asked", x.ofTask(1, 4), 0);
        due("it SLEEPS on", x.ofTask(1, 1), 9);
        due("it was SPAWNED by", x.ofTask(1, 5), t);
    }

    private static void failedCancelsUnderAShield() {
        sentence("section 4", "As a TASK is FAILED, each TASK that it SPAWNED and that is not OVER is CANCELLED");
        YieldMoor x = new YieldMoor();
        int shields = write(x, SHIELD, 1, 0, SLEEP, 1, 0, SHIELD, 0, 0, YIELD, 0, 0);
        x.start(write(x, SPAWN, shields, 0, YIELD, 0, 0, THROW, 3, 0));
        x.run(3);
        due("it is asked", x.ofTask(1, 4), 1);
        ready(x);
        due("it SLEEPS on", x.ofTask(1, 1), 1);
        x.tick(1);
        x.run(1);
        is(x, 1, FAILED, NONE, 9);
    }

    private static void spawnedByAnInnerOne() {
        sentence("section 4", "SPAWN: a new TASK of the BODY a .. each TASK that it SPAWNED");
        YieldMoor x = new YieldMoor();
        int sleeps = write(x, SLEEP, 9, 0);
        int inner = write(x, SPAWN, sleeps, 0, YIELD, 0, 0, THROW, 3, 0);
        int t = x.start(write(x, FROM, inner, 0));
        x.run(2);
        due("SPAWNED by the TASK", x.ofTask(2, 5), t);
        x.run(1);
        is(x, t, FAILED, NONE, 3);
        due("it is asked", x.ofTask(2, 4), 1);
    }

    private static void nowAtFirst() {
        sentence("section 4", "NOW is 0 at first.");
        YieldMoor x = new YieldMoor();
        due("NOW", x.many(9), 0);
        due("a tick", x.tick(1), 0);
        due("NOW", x.many(9), 1);
        due("20 ticks", x.tick(20), 0);
        due("NOW", x.many(9), 21);
    }

    private static void awakeByNumbers() {
        sentence("section 4", "As it becomes 1 more, the TASKS whose SLEEP is over are put at the end of the READY ones, by "
            + "numbers.");
        YieldMoor x = new YieldMoor();
        int two = write(x, SLEEP, 2, 0, YIELD, 0, 0);
        int one = write(x, YIELD, 0, 0, SLEEP, 1, 0);
        int far = write(x, SLEEP, 9, 0);
        int a = x.start(two);
        int b = x.start(one);
        int c = x.start(two);
        int d = x.start(one);
        x.start(far);
        x.run(50);
        int first = x.start(far);
        due("by the first and the second", x.tick(2), 4);
        ready(x, first, b, d, a, c);
        YieldMoor y = new YieldMoor();
        int late = y.start(write(y, YIELD, 0, 0, SLEEP, 1, 0));
        int soon = y.start(write(y, SLEEP, 1, 0));
        y.run(3);
        y.tick(1);
        ready(y, late, soon);
    }
}

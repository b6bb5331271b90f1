import java.math.BigInteger;

/** Promises 13 to 24, sentence by sentence: what each call answers at its edges, and what it throws beyond them. */
public final class Promises13To24EdgesTest extends Check {
    private static final int OVER = -20000;
    private static final int MIN = Integer.MIN_VALUE, MAX = Integer.MAX_VALUE;

    public static void main(String[] args) {
        promise13NotWaiting();
        promise13Sorts();
        promise13Stack();
        promise13ReadyAgain();
        promise13WhatThereIs();
        promise13Inner();
        promise13LinesEver();
        promise13Throws();
        promise14();
        promise15();
        promise15Throws();
        promise16Place();
        promise16Sleep();
        promise16Awaits();
        promise16ShieldAndAsked();
        promise16Throws();
        promise17();
        promise17Throws();
        promise18();
        promise19();
        promise19Throws();
        promise20();
        promise20Throws();
        promise21();
        promise21Throws();
        promise22();
        promise22Throws();
        promise23();
        promise23TwentyAtMost();
        promise23Throws();
        promise24();
        promise24WrapsAround();
        Check.end("Promises13To24EdgesTest");
    }

    /** 0 a GENERATOR that WAITS at its FROM, 1 its INNER one, 2 a NEW one, 3 a TASK, 4 one RETURNED, 5 one FAILED. */
    private static YieldMoor sorts() {
        YieldMoor x = new YieldMoor();
        int leaf = write(x, YIELD, 0, 0);
        int outer = write(x, FROM, leaf, 0);
        x.resume(x.generator(outer), 0);
        x.generator(leaf);
        x.start(leaf);
        x.close(x.generator(leaf));
        x.raise(x.generator(leaf), 7);
        return x;
    }

    private static void promise13NotWaiting() {
        sentence("promise 13", "3 the number of the LINE at which it is WAITING, also as it is READY again (NONE, if it is not "
            + "WAITING)");
        YieldMoor x = sorts();
        int[] due = {0, 0, NONE, NONE, NONE, NONE};
        for (int n = 0; n < 6; n++) due("of(" + n + ", 3)", x.of(n, 3), due[n]);
        YieldMoor y = new YieldMoor();
        int last = y.body();
        for (int n = 0; n < 11; n++) y.line(last, LAST, 0, 0);
        y.line(last, YIELD, 0, 0);
        y.resume(y.generator(last), 0);
        due("the LINE 11", y.of(0, 3), 11);
    }

    private static void promise13Sorts() {
        sentence("promise 13", "0 its BODY, 1 whether it is NEW, WAITING, RETURNED or FAILED (0, 1, 3, 4), 2 0 for a GENERATOR, "
            + "1 a TASK, 2 an INNER one");
        YieldMoor x = sorts();
        int[] states = {1, 1, 0, 0, 3, 4};
        for (int n = 0; n < 6; n++) due("of(" + n + ", 1)", x.of(n, 1), states[n]);
        int[] sorts = {0, 2, 0, 1, 0, 0};
        for (int n = 0; n < 6; n++) due("of(" + n + ", 2)", x.of(n, 2), sorts[n]);
        int[] bodies = {1, 0, 0, 0, 0, 0};
        for (int n = 0; n < 6; n++) due("of(" + n + ", 0)", x.of(n, 0), bodies[n]);
        while (x.many(0) < 8) x.body();
        while (x.many(1) < 23) x.generator(0);
        int task = x.start(7);
        due("the BODY 7 of the COROUTINE 23", x.of(task, 0), 7);
        due("it is a TASK", x.of(23, 2), 1);
    }

    private static void promise13Stack() {
        sentence("promise 13", "5 how many are on its STACK");
        for (int size = 0; size <= 7; size++) {
            YieldMoor x = new YieldMoor();
            int body = x.body();
            for (int n = 0; n < size; n++) x.line(body, TRY, 1, 8);
            for (int n = size; n < 9; n++) x.line(body, YIELD, 0, 0);
            int g = x.generator(body);
            due("of a NEW one", x.of(g, 5), 0);
            x.resume(g, 0);
            due("behind " + size + " TRY", x.of(g, 5), Math.min(6, size));
            x.raise(g, 7);
            due("a WAY in place of one of them", x.of(g, 5), size == 0 ? 0 : size == 7 ? 5 : size);
            while (x.of(g, 1) == 1) x.raise(g, 7);
            due("as it is OVER", x.of(g, 5), 0);
        }
    }

    private static void promise13ReadyAgain() {
        sentence("promise 13", "also as it is READY again");
        YieldMoor x = new YieldMoor();
        int yields = x.start(write(x, ADD, 0, 0, YIELD, 0, 0));
        int sleeps = x.start(write(x, ADD, 0, 0, ADD, 0, 0, SLEEP, 1, 0));
        int awaits = x.start(write(x, GET, 0, 0, GET, 0, 0, GET, 0, 0, AWAIT, 0, 0));
        int cancelled = x.start(write(x, SLEEP, 9, 0));
        x.run(4);
        x.cancel(cancelled);
        x.tick(1);
        x.run(1);
        int[] due = {NONE, 2, 3, 0};
        int[] places = {NONE, 1, 2, 0};
        for (int n = yields; n <= cancelled; n++) {
            due("of(" + n + ", 3)", x.of(n, 3), due[n]);
            due("the place of " + n, x.ofTask(n, 0), places[n]);
        }
        due("of one that SLEPT", x.of(sleeps, 1), 1);
        due("of one that AWAITED", x.of(awaits, 1), 1);
    }

    private static void promise13WhatThereIs() {
        sentence("promise 13", "4 what there is (with that it was RETURNED, if it is; k, if it is FAILED)");
        YieldMoor x = new YieldMoor();
        int returns = x.generator(write(x, ADD, 6, 0, TRY, 1, 3, RETURN, 0, 0, ADD, 50, 0, LAST, 0, 0));
        due("of a NEW one", x.of(returns, 4), 0);
        x.resume(returns, 0);
        due("of a RETURNED one", x.of(returns, 4), 6);
        int fails = x.generator(write(x, ADD, 6, 0, YIELD, 0, 0, THROW, 7, 0));
        x.resume(fails, 0);
        due("of a WAITING one", x.of(fails, 4), 6);
        x.resume(fails, 5);
        due("of a FAILED one", x.of(fails, 4), 7);
        int raised = x.generator(1);
        x.raise(raised, 1);
        due("of one into which was THROWN", x.of(raised, 4), 1);
        int closed = x.generator(1);
        x.resume(closed, 0);
        x.close(closed);
        due("of a CLOSED one", x.of(closed, 4), 0);
    }

    private static void promise13Inner() {
        sentence("promise 13", "6 its INNER one (NONE)");
        YieldMoor x = new YieldMoor();
        int leaf = write(x, YIELD, 0, 0);
        int outer = write(x, FROM, leaf, 0, FROM, leaf, 0);
        int g = x.generator(outer);
        due("of a NEW one", x.of(g, 6), NONE);
        x.resume(g, 0);
        due("the first one", x.of(g, 6), 1);
        x.resume(g, 0);
        due("the second one", x.of(g, 6), 2);
        due("of an INNER one", x.of(2, 6), NONE);
        x.resume(g, 0);
        due("as it is OVER", x.of(g, 6), NONE);
        int t = x.start(outer);
        x.run(1);
        due("of a TASK", x.of(t, 6), 4);
        x.cancel(t);
        x.run(1);
        due("as it is FAILED", x.of(t, 6), NONE);
    }

    private static void promise13LinesEver() {
        sentence("promise 13", "7 how many LINES were done in it ever");
        YieldMoor x = new YieldMoor();
        int g = x.generator(write(x, ADD, 1, 0, YIELD, 0, 0, PUT, 0, 0, LOOP, 0, 1));
        due("of a NEW one", x.of(g, 7), 0);
        int[] due = {2, 5, 7};
        for (int i = 0; i < 3; i++) {
            x.resume(g, i % 2);
            due("LINES", x.of(g, 7), due[i]);
        }
        due("as it is OVER", x.of(g, 1), 3);
        int inner = write(x, ADD, 1, 0, ADD, 1, 0);
        int outer = x.generator(write(x, FROM, inner, 0));
        x.resume(outer, 0);
        due("without those of its INNER one", x.of(outer, 7), 1);
        due("those of its INNER one", x.of(2, 7), 2);
        int empty = x.generator(x.body());
        x.resume(empty, 0);
        due("of a BODY without LINES", x.of(empty, 7), 0);
    }

    private static void promise13Throws() {
        sentence("promise 13", "Throws IndexOutOfBoundsException if there is no such COROUTINE .. Throws "
            + "IllegalArgumentException if what is not 0 to 7");
        YieldMoor x = sorts();
        for (int n : new int[] {MIN, -1, 6, 23, 24, MAX}) {
            throwsBounds("of(" + n + ", 0)", () -> x.of(n, 0));
            throwsBounds("of(" + n + ", 8)", () -> x.of(n, 8));
        }
        for (int what : new int[] {MIN, -1, 8, MAX}) {
            for (int n = 0; n < 6; n++) {
                int is = n;
                throwsArgument("of(" + n + ", " + what + ")", () -> x.of(is, what));
            }
        }
    }

    private static void promise14() {
        sentence("promise 14", "Throws IndexOutOfBoundsException if there is no such COROUTINE, or LOCAL");
        YieldMoor x = sorts();
        for (int n : new int[] {MIN, -1, 6, 23, 24, MAX}) {
            throwsBounds("local(" + n + ", 0)", () -> x.local(n, 0));
            throwsBounds("local(" + n + ", 4)", () -> x.local(n, 4));
        }
        for (int n = 0; n < 6; n++) {
            int is = n;
            for (int local : new int[] {MIN, -1, 4, MAX}) {
                throwsBounds("local(" + n + ", " + local + ")", () -> x.local(is, local));
            }
            for (int local = 0; local <= 3; local++) due("local(" + n + ", " + local + ")", x.local(n, local), 0);
        }
        YieldMoor y = new YieldMoor();
        throwsBounds("local of none", () -> y.local(0, 0));
        int g = y.generator(write(y, ADD, 5, 0, PUT, 0, 0, ADD, -9, 0, PUT, 3, 0));
        y.resume(g, 0);
        due("the LOCAL 0 as it is OVER", y.local(g, 0), 5);
        due("the LOCAL 3 as it is OVER", y.local(g, 3), -4);
    }

    private static void promise15() {
        sentence("promise 15", "place: a place in its STACK, from 0 (the first one that is on it) .. Returns -1 for a CATCH, -2 "
            + "for a FINALLY, -3 for a NORMAL WAY, -4 for a RETURN, k for a THROWN one.");
        YieldMoor x = new YieldMoor();
        int g = x.generator(write(x, TRY, 1, 2, THROW, 7, 0, TRY, 1, 4, RETURN, 0, 0, TRY, 1, 6, DONE, 0, 12, TRY, 0, 12,
            TRY, 1, 12, TRY, 1, 10, RETURN, 0, 0, YIELD, 0, 0));
        x.resume(g, 0);
        int[] due = {7, -4, -3, -1, -2, -4};
        due("a full STACK", x.of(g, 5), 6);
        for (int place = 0; place < 6; place++) due("place " + place, x.stack(g, place), due[place]);
        int inner = write(x, TRY, 1, 2, YIELD, 0, 0, YIELD, 0, 0);
        int eight = x.generator(write(x, TRY, 1, 2, FROM, inner, 0, YIELD, 0, 0));
        x.resume(eight, 0);
        x.close(eight);
        due("8 for the FAULT", x.stack(eight, 0), 8);
        due("10 for CLOSE", x.stack(2, 0), 10);
        int one = x.generator(inner);
        x.resume(one, 0);
        x.raise(one, 1);
        due("1 for a THROWN one", x.stack(one, 0), 1);
        int t = x.start(inner);
        x.run(1);
        x.cancel(t);
        x.run(1);
        due("9 for CANCEL", x.stack(t, 0), 9);
    }

    private static void promise15Throws() {
        sentence("promise 15", "Throws IndexOutOfBoundsException if there is no such COROUTINE, or place");
        YieldMoor x = sorts();
        for (int n : new int[] {MIN, -1, 6, 23, 24, MAX}) throwsBounds("stack(" + n + ", 0)", () -> x.stack(n, 0));
        for (int n = 0; n < 6; n++) {
            int is = n;
            for (int place : new int[] {MIN, -1, 0, 1, 6, MAX}) {
                throwsBounds("stack(" + n + ", " + place + ")", () -> x.stack(is, place));
            }
        }
        for (int size = 1; size <= 6; size++) {
            YieldMoor y = new YieldMoor();
            int body = y.body();
            for (int n = 0; n < size; n++) y.line(body, TRY, 1, 12);
            y.line(body, YIELD, 0, 0);
            y.resume(y.generator(body), 0);
            int beyond = size;
            due("the last place of " + size, y.stack(0, size - 1), -2);
            throwsBounds("the place behind the last of " + size, () -> y.stack(0, beyond));
            throwsBounds("the place -1", () -> y.stack(0, -1));
            y.close(0);
            throwsBounds("as it is OVER", () -> y.stack(0, 0));
        }
    }

    private static void promise16Place() {
        sentence("promise 16", "0 its place among the READY ones, from 0 (NONE)");
        YieldMoor x = new YieldMoor();
        int yields = write(x, YIELD, 0, 0);
        for (int n = 0; n < 24; n++) x.start(yields);
        for (int n = 0; n < 24; n++) due("ofTask(" + n + ", 0)", x.ofTask(n, 0), n);
        x.run(1);
        due("the first one, which YIELDED", x.ofTask(0, 0), 23);
        due("the second one", x.ofTask(1, 0), 0);
        x.run(24);
        due("as it is OVER", x.ofTask(0, 0), NONE);
    }

    private static void promise16Sleep() {
        sentence("promise 16", "1 the NOW at which its SLEEP is over (NONE, if it does not SLEEP)");
        YieldMoor x = new YieldMoor();
        x.tick(20);
        int t = x.start(write(x, SLEEP, 9, 0, YIELD, 0, 0));
        due("of a NEW one", x.ofTask(t, 1), NONE);
        x.run(1);
        due("as it SLEEPS", x.ofTask(t, 1), 29);
        x.tick(8);
        due("as it SLEEPS yet", x.ofTask(t, 1), 29);
        x.tick(1);
        due("as it is READY", x.ofTask(t, 1), NONE);
        x.run(1);
        due("at a YIELD", x.ofTask(t, 1), NONE);
    }

    private static void promise16Awaits() {
        sentence("promise 16", "2 for which TASK it AWAITS (NONE), .. 5 the TASK that SPAWNED it (NONE), 6 how many AWAIT it");
        YieldMoor x = new YieldMoor();
        int awaits = write(x, AWAIT, 0, 0);
        x.start(write(x, SLEEP, 1, 0));
        for (int n = 1; n < 23; n++) x.start(awaits);
        int spawns = x.start(write(x, SPAWN, awaits, 0));
        due("none", x.ofTask(0, 6), 0);
        due("of a NEW one", x.ofTask(1, 2), NONE);
        due("SPAWNED by none", x.ofTask(spawns, 5), NONE);
        x.run(23);
        due("all but itself", x.ofTask(0, 6), 22);
        due("the TASK 0", x.ofTask(22, 2), 0);
        due("none AWAITS this one", x.ofTask(22, 6), 0);
        x.tick(1);
        x.run(2);
        due("none as it is OVER", x.ofTask(0, 6), 0);
        due("AWAITS none", x.ofTask(22, 2), NONE);
        YieldMoor y = new YieldMoor();
        int leaf = y.body();
        y.start(write(y, SPAWN, leaf, 0));
        y.run(2);
        due("SPAWNED by the TASK 0", y.ofTask(1, 5), 0);
        due("of one that was started", y.ofTask(0, 5), NONE);
    }

    private static void promise16ShieldAndAsked() {
        sentence("promise 16", "3 its SHIELD, 4 1 if it is asked to be CANCELLED, otherwise 0");
        YieldMoor x = new YieldMoor();
        int body = x.body();
        for (int n = 0; n < 11; n++) x.line(body, SHIELD, 1, 0);
        x.line(body, SLEEP, 1, 0);
        int t = x.start(body);
        due("SHIELD of a NEW one", x.ofTask(t, 3), 0);
        due("asked", x.ofTask(t, 4), 0);
        x.run(1);
        due("SHIELD", x.ofTask(t, 3), 11);
        x.cancel(t);
        x.cancel(t);
        due("asked twice", x.ofTask(t, 4), 1);
        due("SHIELD", x.ofTask(t, 3), 11);
    }

    private static void promise16Throws() {
        sentence("promise 16", "Throws IndexOutOfBoundsException if there is no such TASK .. Throws IllegalArgumentException if "
            + "what is not 0 to 6");
        YieldMoor x = sorts();
        for (int n : new int[] {MIN, -1, 0, 1, 2, 4, 5, 6, 24, MAX}) {
            throwsBounds("ofTask(" + n + ", 0)", () -> x.ofTask(n, 0));
            throwsBounds("ofTask(" + n + ", 7)", () -> x.ofTask(n, 7));
        }
        for (int what : new int[] {MIN, -1, 7, MAX}) throwsArgument("what " + what, () -> x.ofTask(3, what));
        int[] due = {0, NONE, NONE, 0, 0, NONE, 0};
        for (int what = 0; what <= 6; what++) due("ofTask(3, " + what + ")", x.ofTask(3, what), due[what]);
    }

    private static void manyIs(YieldMoor x, int... due) {
        for (int what = 0; what < due.length; what++) due("many(" + what + ")", x.many(what), due[what]);
    }

    private static void promise17() {
        sentence("promise 17", "0 BODIES, 1 COROUTINES, 2 GENERATORS, 3 TASKS, 4 to 7 COROUTINES that are NEW, WAITING, "
            + "RETURNED, FAILED, 8 READY ones, 9 NOW, 10 LINES that were done ever, 11 turns");
        manyIs(new YieldMoor(), 0, 0, 0, 0, 0, 0, 0, 0, 0, 0, 0, 0);
        YieldMoor x = sorts();
        manyIs(x, 2, 6, 4, 1, 2, 2, 1, 1, 1, 0, 2, 0);
        x.tick(20);
        x.run(1);
        manyIs(x, 2, 6, 4, 1, 1, 3, 1, 1, 1, 20, 3, 1);
        x.run(1);
        manyIs(x, 2, 6, 4, 1, 1, 2, 2, 1, 0, 20, 3, 2);
        while (x.many(0) < 8) x.body();
        while (x.many(1) < 24) x.start(7);
        manyIs(x, 8, 24, 4, 19, 19, 2, 2, 1, 18, 20, 3, 2);
        x.run(50);
        manyIs(x, 8, 24, 4, 19, 1, 2, 20, 1, 0, 20, 3, 20);
    }

    private static void promise17Throws() {
        sentence("promise 17", "Throws IllegalArgumentException if what is not 0 to 11");
        YieldMoor x = sorts();
        for (int what : new int[] {MIN, -1, 12, MAX}) throwsArgument("many(" + what + ")", () -> x.many(what));
    }

    private static void promise18() {
        sentence("promise 18", "Returns the mean number of LINES that were done in a COROUTINE, not cut; 0 without any.");
        YieldMoor x = new YieldMoor();
        that("0 without any", x.meanLines() == 0.0);
        int body = write(x, ADD, 1, 0, YIELD, 0, 0);
        that("0 without any, with a BODY", x.meanLines() == 0.0);
        x.generator(body);
        that("0 of 1", x.meanLines() == 0.0);
        x.resume(0, 0);
        that("2 of 1", x.meanLines() == 2.0);
        x.generator(body);
        x.start(body);
        that("2 of 3, not cut", x.meanLines() == 2.0 / 3);
        x.run(1);
        that("4 of 3, not cut", x.meanLines() == 4.0 / 3);
        while (x.many(1) < 24) x.generator(body);
        that("4 of 24", x.meanLines() == 4.0 / 24);
        YieldMoor y = new YieldMoor();
        int inner = write(y, ADD, 1, 0, ADD, 1, 0);
        y.resume(y.generator(write(y, FROM, inner, 0)), 0);
        that("INNER ones count", y.meanLines() == 1.5);
    }

    private static void promise19() {
        sentence("promise 19", "Returns what resume() would tell.");
        YieldMoor x = new YieldMoor();
        int g = x.generator(write(x, ADD, 1, 0, YIELD, 0, 0, ADD, 1, 0, YIELD, 0, 0, SKIP, 0, 6, THROW, 7, 0));
        due("of a NEW one the value is dropped", x.wouldGive(g, 999), 1);
        due("resume", x.resume(g, 999), 1);
        due("the most value", x.wouldGive(g, 999), 1000);
        due("the least value", x.wouldGive(g, -999), -998);
        due("resume", x.resume(g, -999), -998);
        due("it would be FAILED", x.wouldGive(g, 1), OVER - 7);
        due("it would be RETURNED", x.wouldGive(g, 0), OVER);
        due("it WAITS yet", x.of(g, 3), 3);
        due("LINES done", x.of(g, 7), 4);
        int endless = x.generator(write(x, GET, 0, 0, ADD, 1, 0, PUT, 0, 0, LOOP, 0, 0));
        due("it would take too long", x.wouldGive(endless, 0), OVER - 11);
        due("it is NEW yet", x.of(endless, 1), 0);
        int outer = x.generator(write(x, FROM, 0, 0));
        while (x.many(1) < 23) x.generator(0);
        due("an INNER one would be the 24th", x.wouldGive(outer, 0), 1);
        due("COROUTINES", x.many(1), 23);
        x.generator(0);
        due("it would be the 25th", x.wouldGive(outer, 0), OVER - 4);
    }

    private static void promise19Throws() {
        sentence("promise 19", "Throws IndexOutOfBoundsException if there is no such one that is not .. Throws "
            + "IllegalArgumentException if value is not -999 to 999");
        YieldMoor x = sorts();
        for (int n : new int[] {MIN, -1, 1, 3, 4, 5, 6, 24, MAX}) {
            throwsBounds("wouldGive(" + n + ", 0)", () -> x.wouldGive(n, 0));
            throwsBounds("wouldGive(" + n + ", 1000)", () -> x.wouldGive(n, 1000));
        }
        for (int value : new int[] {MIN, -1000, 1000, MAX}) {
            throwsArgument("value " + value, () -> x.wouldGive(0, value));
            throwsArgument("value " + value + " for a NEW one", () -> x.wouldGive(2, value));
        }
        due("-999", x.wouldGive(0, -999), OVER);
        due("999", x.wouldGive(2, 999), 0);
    }

    private static void promise20() {
        sentence("promise 20", "Returns what close() would tell.");
        YieldMoor x = sorts();
        int[] gone = {2, 4, 5, 0};
        for (int n : gone) due("wouldClose(" + n + ")", x.wouldClose(n), 0);
        due("it is NEW yet", x.of(2, 1), 0);
        due("FAILED with 7 yet", x.of(5, 4), 7);
        due("it WAITS yet", x.of(0, 6), 1);
        for (int k = 1; k <= 7; k += 6) {
            int g = x.generator(write(x, TRY, 1, 2, YIELD, 0, 0, YIELD, 0, 0, THROW, k, 0));
            x.resume(g, 0);
            due("the FAULT", x.wouldClose(g), 8);
            due("the FAULT again", x.wouldClose(g), 8);
            due("close", x.close(g), 8);
            due("it would be RETURNED", x.wouldClose(g), 0);
            int f = x.generator(write(x, TRY, 1, 2, YIELD, 0, 0, THROW, k, 0));
            x.resume(f, 0);
            due("it would be FAILED", x.wouldClose(f), k);
            due("close", x.close(f), k);
            due("as it is OVER", x.wouldClose(f), 0);
        }
    }

    private static void promise20Throws() {
        sentence("promise 20", "Throws IndexOutOfBoundsException if there is no such GENERATOR");
        YieldMoor x = sorts();
        for (int n : new int[] {MIN, -1, 1, 3, 6, 24, MAX}) throwsBounds("wouldClose(" + n + ")", () -> x.wouldClose(n));
    }

    private static void promise21() {
        sentence("promise 21", "turns: how many turns at most .. Returns how many TASKS would be OVER behind that.");
        YieldMoor x = new YieldMoor();
        due("without a TASK", x.overIn(1), 0);
        due("without a TASK", x.overIn(50), 0);
        int once = x.body();
        int twice = write(x, YIELD, 0, 0);
        for (int n = 0; n < 12; n++) x.start(twice);
        for (int n = 12; n < 23; n++) x.start(once);
        x.start(write(x, SLEEP, 1, 0));
        for (int turns = 1; turns <= 50; turns++) {
            int due = turns <= 12 ? 0 : turns <= 23 ? turns - 12 : turns == 24 ? 11 : Math.min(23, turns - 13);
            due("overIn(" + turns + ")", x.overIn(turns), due);
        }
        due("turns", x.many(11), 0);
        due("NOW", x.many(9), 0);
        x.run(20);
        due("those that are OVER too", x.overIn(1), 9);
        YieldMoor y = sorts();
        due("GENERATORS that are OVER do not count", y.overIn(1), 0);
    }

    private static void promise21Throws() {
        sentence("promise 21", "Throws IllegalArgumentException if turns is not 1 to 50");
        YieldMoor x = sorts();
        for (int turns : new int[] {MIN, -1, 0, 51, MAX}) throwsArgument("overIn(" + turns + ")", () -> x.overIn(turns));
        due("overIn(1)", x.overIn(1), 0);
        due("overIn(50)", x.overIn(50), 1);
    }

    private static void promise22() {
        sentence("promise 22", "Returns whether it would be OVER behind that, if it was CANCELLED now.");
        YieldMoor x = new YieldMoor();
        int sleeps = write(x, SLEEP, 9, 0);
        int shields = write(x, SHIELD, 1, 0, SLEEP, 9, 0);
        int catches = write(x, TRY, 0, 2, SLEEP, 9, 0, SLEEP, 9, 0);
        for (int body = sleeps; body <= catches; body++) x.start(body);
        due("a NEW one by its own turn", x.isOverBy(0, 1), true);
        due("a NEW one under a SHIELD", x.isOverBy(1, 50), false);
        due("a NEW one that catches it", x.isOverBy(2, 50), false);
        x.run(3);
        due("one that SLEEPS", x.isOverBy(0, 1), true);
        due("one under a SHIELD", x.isOverBy(1, 50), false);
        due("one that catches it once", x.isOverBy(2, 50), false);
        for (int n = 0; n < 3; n++) due("it is not asked", x.ofTask(n, 4), 0);
        x.start(sleeps);
        due("its turn is the second", x.isOverBy(0, 1), false);
        due("its turn is the second", x.isOverBy(0, 2), true);
        x.cancel(0);
        x.run(50);
        due("as it is OVER", x.isOverBy(0, 1), true);
        int returned = x.start(x.body());
        x.run(1);
        due("as it is RETURNED", x.isOverBy(returned, 1), true);
    }

    private static void promise22Throws() {
        sentence("promise 22", "Throws IndexOutOfBoundsException if there is no such TASK .. Throws IllegalArgumentException if "
            + "turns is not 1 to 50");
        YieldMoor x = sorts();
        for (int n : new int[] {MIN, -1, 0, 1, 2, 4, 5, 6, 24, MAX}) {
            throwsBounds("isOverBy(" + n + ", 1)", () -> x.isOverBy(n, 1));
            throwsBounds("isOverBy(" + n + ", 0)", () -> x.isOverBy(n, 0));
        }
        for (int turns : new int[] {MIN, -1, 0, 51, MAX}) throwsArgument("turns " + turns, () -> x.isOverBy(3, turns));
        due("isOverBy(3, 1)", x.isOverBy(3, 1), true);
        due("isOverBy(3, 50)", x.isOverBy(3, 50), true);
    }

    private static void promise23() {
        sentence("promise 23", "Returns how many values it would still give, if it was RESUMED with 0 till it is OVER");
        YieldMoor x = sorts();
        due("one whose INNER one WAITS at its only YIELD", x.left(0), 0);
        due("a NEW one", x.left(2), 1);
        due("as it is RETURNED", x.left(4), 0);
        due("as it is FAILED", x.left(5), 0);
        due("of a BODY without LINES", x.left(x.generator(x.body())), 0);
        due("till it is FAILED", x.left(x.generator(write(x, YIELD, 0, 0, YIELD, 0, 0, THROW, 1, 0, YIELD, 0, 0))), 2);
        int zero = x.generator(write(x, YIELD, 0, 0, SKIP, 0, 3, YIELD, 0, 0, YIELD, 0, 0));
        due("with 0", x.left(zero), 2);
        x.resume(zero, 0);
        due("one less", x.left(zero), 1);
        due("it is NEW yet", x.of(2, 1), 0);
        due("COROUTINES", x.many(1), 9);
    }

    private static void promise23TwentyAtMost() {
        sentence("promise 23", "20 at most");
        for (int times : new int[] {1, 19, 20, 21, 99}) {
            YieldMoor x = new YieldMoor();
            int g = x.generator(write(x, ADD, times - 1, 0, PUT, 0, 0, YIELD, 0, 0, LOOP, 0, 2));
            due("it would give " + times, x.left(g), Math.min(20, times));
            x.resume(g, 0);
            due("and one less", x.left(g), Math.min(20, times - 1));
        }
    }

    private static void promise23Throws() {
        sentence("promise 23", "Throws IndexOutOfBoundsException if there is no such GENERATOR");
        YieldMoor x = sorts();
        for (int n : new int[] {MIN, -1, 1, 3, 6, 24, MAX}) throwsBounds("left(" + n + ")", () -> x.left(n));
    }

    /** All that the digest is made of, asked for call by call, from a number that never wraps around. */
    private static BigInteger endlessDigest(YieldMoor x) {
        BigInteger d = BigInteger.valueOf(7603);
        for (int what = 0; what <= 11; what++) d = next(d, x.many(what));
        for (int body = 0; body < x.many(0); body++) {
            for (int what = 0; what <= 2; what++) d = next(d, x.ofBody(body, what));
        }
        for (int n = 0; n < x.many(1); n++) {
            for (int what = 0; what <= 7; what++) d = next(d, x.of(n, what));
            for (int local = 0; local <= 3; local++) d = next(d, x.local(n, local));
            for (int place = 0; place < x.of(n, 5); place++) d = next(d, x.stack(n, place));
            if (x.of(n, 2) == 0) d = next(next(d, x.left(n)), x.wouldClose(n));
            for (int what = 0; what <= 6 && x.of(n, 2) == 1; what++) d = next(d, x.ofTask(n, what));
        }
        return next(d, x.overIn(20));
    }

    private static BigInteger next(BigInteger d, int v) {
        return d.multiply(BigInteger.valueOf(31)).add(BigInteger.valueOf(v));
    }

    private static void promise24() {
        sentence("promise 24", "many() of 0 to 11; BODY by BODY ofBody() of 0 to 2; COROUTINE by COROUTINE of() of 0 to 7, each "
            + "local(), each stack(), place by place, and, if it is a GENERATOR, left() and wouldClose(), if it is a TASK, "
            + "ofTask() of 0 to 6; overIn() of 20");
        YieldMoor x = sorts();
        due("of each sort", x.digest(), endlessDigest(x).longValue());
        int full = x.generator(write(x, TRY, 1, 2, THROW, 7, 0, TRY, 1, 4, RETURN, 0, 0, TRY, 0, 12, TRY, 1, 12, TRY, 1, 8,
            DONE, 0, 12, TRY, 0, 12, PUT, 3, 0, YIELD, 0, 0));
        x.resume(full, 0);
        due("of a full STACK", x.digest(), endlessDigest(x).longValue());
        while (x.many(0) < 8) x.body();
        while (x.many(1) < 24) x.start(0);
        due("of all that can be made", x.digest(), endlessDigest(x).longValue());
        due("behind 20 turns 2 of 18 TASKS", x.overIn(20), 2);
        x.run(20);
        x.tick(20);
        due("behind 20 turns", x.digest(), endlessDigest(x).longValue());
    }

    private static void promise24WrapsAround() {
        sentence("promise 24", "A number d starts with 7603; then d becomes d * 31 + v, which wraps around as a 64-bit integer");
        YieldMoor x = new YieldMoor();
        BigInteger due = BigInteger.valueOf(7603);
        for (int i = 0; i < 13; i++) due = due.multiply(BigInteger.valueOf(31));
        that("it is beyond 64 bits", due.bitLength() > 64);
        due("of a new one: 13 times 0", x.digest(), due.longValue());
        x.tick(7);
        BigInteger nine = BigInteger.valueOf(7 * 31 * 31 * 31);
        due("of a NOW of 7", x.digest(), due.add(nine).longValue());
    }
}

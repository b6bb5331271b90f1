/** Promises 1 to 12, sentence by sentence: what each call answers at its edges, and what it throws beyond them. */
public final class Promises1To12EdgesTest extends Check {
    private static final int OVER = -20000;
    private static final int NEW = 0, WAITING = 1, RETURNED = 3, FAILED = 4;
    private static final int MIN = Integer.MIN_VALUE, MAX = Integer.MAX_VALUE;

    public static void main(String[] args) {
        promise1();
        promise2();
        promise3Bounds();
        promise3Argument();
        promise3State();
        promise4HowMany();
        promise4Waits();
        promise4BothWays();
        promise4NotBehind();
        promise4Throws();
        promise5();
        promise6Tells();
        promise6Throws();
        promise7Tells();
        promise7Throws();
        promise8Tells();
        promise8AsItWasOver();
        promise8Throws();
        promise9();
        promise10();
        promise10Throws();
        promise11();
        promise11Throws();
        promise12();
        promise12Throws();
        Check.end("Promises1To12EdgesTest");
    }

    private static void promise1() {
        sentence("promise 1", "Creates a machine without BODIES.");
        YieldMoor x = new YieldMoor();
        for (int what = 0; what <= 11; what++) due("many(" + what + ")", x.many(what), 0);
        throwsBounds("ofBody", () -> x.ofBody(0, 0));
        throwsBounds("line", () -> x.line(0, YIELD, 0, 0));
        throwsBounds("generator", () -> x.generator(0));
        throwsBounds("start", () -> x.start(0));
        throwsBounds("of", () -> x.of(0, 0));
        throwsBounds("resume", () -> x.resume(0, 0));
        throwsBounds("cancel", () -> x.cancel(0));
        due("turns", x.run(50), 0);
        due("the first BODY", x.body(), 0);
        due("another machine's BODIES", new YieldMoor().many(0), 0);
    }

    private static void promise2() {
        sentence("promise 2", "Adds a BODY without LINES .. Returns its number .. Throws IllegalStateException if there are 8");
        YieldMoor x = new YieldMoor();
        for (int n = 0; n < 8; n++) {
            due("body", x.body(), n);
            due("LINES", x.ofBody(n, 0), 0);
            due("BODIES", x.many(0), n + 1);
        }
        throwsState("a 9th", () -> x.body());
        due("BODIES", x.many(0), 8);
    }

    private static void promise3Bounds() {
        sentence("promise 3", "Throws IndexOutOfBoundsException if there is no such BODY");
        YieldMoor x = new YieldMoor();
        x.body();
        x.body();
        for (int body : new int[] {MIN, -1, 2, 7, 8, MAX}) throwsBounds("line(" + body + ")", () -> x.line(body, 0, 0, 0));
        due("the BODY 1", x.line(1, 0, 0, 0), 0);
        for (int n = 2; n < 8; n++) x.body();
        throwsBounds("line(8)", () -> x.line(8, 0, 0, 0));
        throwsBounds("ahead of a wrong kind", () -> x.line(8, 16, 0, 0));
    }

    private static void promise3Argument() {
        sentence("promise 3", "Throws IllegalArgumentException if kind is not 0 to 15, or a or b is not as section 1 says");
        YieldMoor x = new YieldMoor();
        x.body();
        for (int kind : new int[] {MIN, -1, 16, MAX}) throwsArgument("kind " + kind, () -> x.line(0, kind, 0, 0));
        for (int kind = 0; kind <= 15; kind++) {
            int is = kind;
            for (int wrong : new int[] {MIN, -100, 100, MAX}) {
                throwsArgument("KIND " + kind + ", a " + wrong, () -> x.line(0, is, wrong, is >= 5 && is <= 7 ? 12 : 0));
                throwsArgument("KIND " + kind + ", b " + wrong, () -> x.line(0, is, is == 9 || is == 12 ? 1 : 0, wrong));
            }
        }
        due("LINES", x.ofBody(0, 0), 0);
        for (int kind = 0; kind <= 15; kind++) {
            int b = kind >= 5 && kind <= 7 ? 12 : 0;
            YieldMoor y = new YieldMoor();
            y.body();
            due("KIND " + kind, y.line(0, kind, kind == 9 || kind == 12 ? 1 : 0, b), 0);
        }
    }

    private static void promise3State() {
        sentence("promise 3", "Throws IllegalStateException if a COROUTINE was made of it, or it has 12");
        YieldMoor x = new YieldMoor();
        x.body();
        for (int n = 0; n < 11; n++) due("line", x.line(0, LAST, 0, 0), n);
        due("the 12th", x.line(0, SKIP, 0, 12), 11);
        throwsState("the 13th", () -> x.line(0, LAST, 0, 0));
        throwsState("a LOOP to its own number", () -> x.line(0, LOOP, 0, 12));
        throwsArgument("a LOOP beyond it", () -> x.line(0, LOOP, 0, 13));
        throwsArgument("a wrong a", () -> x.line(0, LAST, 1, 0));
        int used = x.body();
        x.start(used);
        throwsState("as a COROUTINE was made", () -> x.line(used, LAST, 0, 0));
        throwsArgument("a wrong kind as one was made", () -> x.line(used, 16, 0, 0));
        x.run(1);
        throwsState("as it is OVER", () -> x.line(used, LAST, 0, 0));
    }

    private static void promise4HowMany() {
        sentence("promise 4", "what: 0 how many LINES, 1 how many COROUTINES were made of it");
        YieldMoor x = new YieldMoor();
        int full = x.body();
        for (int n = 0; n < 12; n++) {
            due("LINES", x.ofBody(full, 0), n);
            x.line(full, YIELD, 0, 0);
        }
        due("LINES", x.ofBody(full, 0), 12);
        int spawns = write(x, SPAWN, full, 0, FROM, full, 0);
        due("COROUTINES", x.ofBody(full, 1), 0);
        x.start(spawns);
        due("none as it is NEW", x.ofBody(full, 1), 0);
        x.run(1);
        due("a SPAWNED one and an INNER one", x.ofBody(full, 1), 2);
        x.close(x.generator(full));
        due("one that is OVER too", x.ofBody(full, 1), 3);
        while (x.many(1) < 24) x.generator(full);
        due("all but one", x.ofBody(full, 1), 23);
        due("the other one", x.ofBody(spawns, 1), 1);
    }

    private static void waits(int due, int... lines) {
        YieldMoor x = new YieldMoor();
        due("ofBody(0, 2) of " + java.util.Arrays.toString(lines), x.ofBody(write(x, lines), 2), due);
    }

    private static void promise4Waits() {
        sentence("promise 4", "2 at how many of its LINES it can come to a wait (YIELD, FROM, SLEEP, AWAIT)");
        waits(0);
        waits(1, YIELD, 0, 0);
        waits(1, FROM, 7, 0);
        waits(1, SLEEP, 1, 0);
        waits(1, AWAIT, 0, 0);
        for (int[] line : new int[][] {{ADD, 1, 0}, {GET, 0, 0}, {PUT, 0, 0}, {LOOP, 0, 0}, {SKIP, 0, 1}, {TRY, 0, 1},
            {DONE, 0, 1}, {LAST, 0, 0}, {THROW, 1, 0}, {RETURN, 0, 0}, {SPAWN, 0, 0}, {SHIELD, 1, 0}}) {
            waits(0, line);
        }
        int y = YIELD;
        waits(12, y, 0, 0, y, 0, 0, y, 0, 0, y, 0, 0, y, 0, 0, y, 0, 0, y, 0, 0, y, 0, 0, y, 0, 0, y, 0, 0, y, 0, 0,
            y, 0, 0);
        waits(2, ADD, 1, 0, GET, 0, 0, PUT, 0, 0, LAST, 0, 0, SPAWN, 0, 0, SHIELD, 1, 0, y, 0, 0, AWAIT, 0, 0);
    }

    private static void promise4BothWays() {
        sentence("promise 4", "with both ways of LOOP and SKIP, to the HANDLER as well as behind a TRY, to b of a DONE alone");
        int y = YIELD;
        waits(1, LOOP, 0, 0, y, 0, 0);
        waits(2, SKIP, 0, 4, y, 0, 0, RETURN, 0, 0, y, 0, 0, y, 0, 0);
        waits(1, SKIP, 0, 12, y, 0, 0);
        for (int a = CATCH; a <= FINALLY; a++) {
            waits(2, TRY, a, 4, y, 0, 0, RETURN, 0, 0, y, 0, 0, y, 0, 0);
            waits(1, TRY, a, 12, y, 0, 0);
        }
        waits(1, DONE, 0, 2, y, 0, 0, y, 0, 0);
        waits(0, DONE, 0, 12, y, 0, 0);
        waits(1, SKIP, 0, 4, DONE, 0, 6, y, 0, 0, RETURN, 0, 0, LOOP, 0, 2, RETURN, 0, 0);
        waits(2, DONE, 0, 3, y, 0, 0, RETURN, 0, 0, SKIP, 0, 6, LOOP, 0, 1, RETURN, 0, 0, y, 0, 0);
        waits(3, SKIP, 0, 11, DONE, 0, 9, y, 0, 0, DONE, 0, 12, y, 0, 0, LOOP, 0, 2, RETURN, 0, 0, LOOP, 0, 4, y, 0, 0,
            LOOP, 0, 7, RETURN, 0, 0, LOOP, 0, 5);
        waits(1, DONE, 0, 11, y, 0, 0, LOOP, 0, 1, LOOP, 0, 2, LOOP, 0, 3, LOOP, 0, 4, LOOP, 0, 5, LOOP, 0, 6, LOOP, 0, 7,
            LOOP, 0, 8, LOOP, 0, 9, LOOP, 0, 10);
    }

    private static void promise4NotBehind() {
        sentence("promise 4", "and not behind THROW, RETURN; LAST as any other");
        int y = YIELD;
        waits(0, THROW, 1, 0, y, 0, 0);
        waits(0, RETURN, 0, 0, y, 0, 0);
        waits(1, LAST, 0, 0, y, 0, 0);
        waits(0, TRY, 0, 2, THROW, 1, 0, RETURN, 0, 0, y, 0, 0);
        waits(1, TRY, 0, 2, THROW, 1, 0, y, 0, 0);
        waits(1, TRY, 1, 3, DONE, 0, 4, y, 0, 0, LAST, 0, 0, y, 0, 0);
        waits(0, DONE, 0, 2, y, 0, 0, LAST, 0, 0, RETURN, 0, 0, y, 0, 0);
    }

    private static void promise4Throws() {
        sentence("promise 4", "Throws IndexOutOfBoundsException if there is no such BODY .. Throws IllegalArgumentException if "
            + "what is not 0 to 2");
        YieldMoor x = new YieldMoor();
        x.body();
        for (int body : new int[] {MIN, -1, 1, 8, MAX}) {
            throwsBounds("ofBody(" + body + ", 0)", () -> x.ofBody(body, 0));
            throwsBounds("ofBody(" + body + ", 3)", () -> x.ofBody(body, 3));
        }
        for (int what : new int[] {MIN, -1, 3, MAX}) throwsArgument("what " + what, () -> x.ofBody(0, what));
        for (int what = 0; what <= 2; what++) due("what " + what, x.ofBody(0, what), 0);
    }

    private static void promise5() {
        sentence("promise 5", "Makes a GENERATOR .. Returns its number .. Throws IndexOutOfBoundsException if there is no such "
            + "BODY .. Throws IllegalStateException if there are 24 COROUTINES");
        YieldMoor x = new YieldMoor();
        x.body();
        x.body();
        for (int n = 0; n < 24; n++) due("generator", x.generator(n % 2), n);
        due("it is a GENERATOR", x.of(23, 2), 0);
        due("it is NEW", x.of(23, 1), NEW);
        due("its BODY", x.of(23, 0), 1);
        throwsState("a 25th", () -> x.generator(1));
        for (int body : new int[] {MIN, -1, 2, 8, MAX}) throwsBounds("generator(" + body + ")", () -> x.generator(body));
        YieldMoor y = new YieldMoor();
        y.body();
        for (int body : new int[] {MIN, -1, 1, 8, MAX}) throwsBounds("generator(" + body + ")", () -> y.generator(body));
        due("COROUTINES", y.many(1), 0);
    }

    private static void promise6Tells() {
        sentence("promise 6", "Returns what it gives, as above.");
        YieldMoor x = new YieldMoor();
        int g = x.generator(write(x, YIELD, 0, 0, ADD, 1, 0, YIELD, 0, 0, YIELD, 0, 0));
        due("0", x.resume(g, 999), 0);
        due("the most value", x.resume(g, 999), 1000);
        due("the least value", x.resume(g, -999), -999);
        sentence("behind section 5", "(what one gives is told as it is; -20000 if it is RETURNED, -20000 - k if it is FAILED "
            + "with k)");
        due("RETURNED", x.resume(g, 5), OVER);
        for (int k = 1; k <= 7; k++) due("FAILED", x.resume(x.generator(write(x, THROW, k, 0)), 0), OVER - k);
        YieldMoor y = new YieldMoor();
        due("FAILED with 11", y.resume(y.generator(write(y, GET, 0, 0, ADD, 1, 0, PUT, 0, 0, LOOP, 0, 0)), 0), OVER - 11);
    }

    private static void promise6Throws() {
        sentence("promise 6", "Throws IndexOutOfBoundsException if there is no such GENERATOR .. Throws IllegalArgumentException "
            + "if value is not -999 to 999 .. Throws IllegalStateException if it is OVER");
        YieldMoor x = sorts();
        for (int n : new int[] {MIN, -1, 1, 3, 6, 24, MAX}) {
            throwsBounds("resume(" + n + ", 0)", () -> x.resume(n, 0));
            throwsBounds("resume(" + n + ", 1000)", () -> x.resume(n, 1000));
        }
        for (int value : new int[] {MIN, -1000, 1000, MAX}) {
            throwsArgument("value " + value, () -> x.resume(0, value));
            throwsArgument("value " + value + " as it is RETURNED", () -> x.resume(4, value));
        }
        throwsState("as it is RETURNED", () -> x.resume(4, 0));
        throwsState("as it is FAILED", () -> x.resume(5, 0));
        due("the least value", x.resume(0, -999), OVER);
        throwsState("as it is OVER now", () -> x.resume(0, -999));
    }

    /** 0 a GENERATOR that WAITS at its FROM, 1 its INNER one, 2 a NEW one, 3 a TASK, 4 one RETURNED, 5 one FAILED. */
    private static YieldMoor sorts() {
        YieldMoor x = new YieldMoor();
        int leaf = write(x, YIELD, 0, 0);
        int outer = write(x, FROM, leaf, 0);
        x.resume(x.generator(outer), 0);
        x.generator(leaf);
        x.start(leaf);
        x.close(x.generator(leaf));
        x.raise(x.generator(leaf), 7);
        return x;
    }

    private static void promise7Tells() {
        sentence("promise 7", "THROWS into a GENERATOR .. Returns what it gives, as above.");
        YieldMoor x = sorts();
        due("into a NEW one", x.raise(2, 1), OVER - 1);
        due("into one that WAITS at a FROM", x.raise(0, 7), OVER - 7);
        due("its INNER one is FAILED", x.of(1, 1), FAILED);
        int g = x.generator(write(x, TRY, 0, 2, YIELD, 0, 0, ADD, 50, 0, TRY, 1, 6, YIELD, 0, 0, YIELD, 0, 0, ADD, 1, 0,
            RETURN, 0, 0));
        x.resume(g, 0);
        due("it YIELDS", x.raise(g, 7), 57);
        due("it RETURNS", x.raise(g, 1), OVER);
        due("with", x.of(g, 4), 58);
    }

    private static void promise7Throws() {
        sentence("promise 7", "Throws IndexOutOfBoundsException if there is no such GENERATOR .. Throws IllegalArgumentException "
            + "if k is not 1 to 7 .. Throws IllegalStateException if it is OVER");
        YieldMoor x = sorts();
        for (int n : new int[] {MIN, -1, 1, 3, 6, 24, MAX}) {
            throwsBounds("raise(" + n + ", 1)", () -> x.raise(n, 1));
            throwsBounds("raise(" + n + ", 0)", () -> x.raise(n, 0));
        }
        for (int k : new int[] {MIN, -1, 0, 8, 9, 10, 11, MAX}) {
            throwsArgument("k " + k, () -> x.raise(0, k));
            throwsArgument("k " + k + " into a NEW one", () -> x.raise(2, k));
            throwsArgument("k " + k + " as it is FAILED", () -> x.raise(5, k));
        }
        throwsState("as it is RETURNED", () -> x.raise(4, 1));
        throwsState("as it is FAILED", () -> x.raise(5, 7));
        due("it is NEW yet", x.of(2, 1), NEW);
        due("it WAITS yet", x.of(0, 1), WAITING);
    }

    private static void promise8Tells() {
        sentence("promise 8", "Returns 0 if it is RETURNED by that, 8 for the FAULT, k if it is FAILED with k");
        YieldMoor x = sorts();
        due("of a NEW one", x.close(2), 0);
        due("of one that WAITS at a FROM", x.close(0), 0);
        due("RETURNED", x.of(0, 1), RETURNED);
        for (int k = 1; k <= 7; k += 6) {
            int g = x.generator(write(x, TRY, 1, 2, YIELD, 0, 0, YIELD, 0, 0, THROW, k, 0));
            x.resume(g, 0);
            due("the FAULT", x.close(g), 8);
            due("WAITING", x.of(g, 1), WAITING);
            due("CLOSED again, RETURNED", x.close(g), 0);
            int f = x.generator(write(x, TRY, 1, 2, YIELD, 0, 0, THROW, k, 0));
            x.resume(f, 0);
            due("FAILED", x.close(f), k);
            due("with", x.of(f, 4), k);
        }
    }

    private static void promise8AsItWasOver() {
        sentence("promise 8", "0 if it was OVER");
        YieldMoor x = sorts();
        long before = x.digest();
        due("RETURNED", x.close(4), 0);
        due("FAILED", x.close(5), 0);
        due("with 7 yet", x.of(5, 4), 7);
        due("digest", x.digest(), before);
    }

    private static void promise8Throws() {
        sentence("promise 8", "Throws IndexOutOfBoundsException if there is no such GENERATOR");
        YieldMoor x = sorts();
        for (int n : new int[] {MIN, -1, 1, 3, 6, 24, MAX}) throwsBounds("close(" + n + ")", () -> x.close(n));
        due("the INNER one WAITS yet", x.of(1, 1), WAITING);
        due("the TASK is NEW yet", x.of(3, 1), NEW);
    }

    private static void promise9() {
        sentence("promise 9", "Starts a TASK .. Returns its number .. Throws IndexOutOfBoundsException if there is no such BODY .. "
            + "Throws IllegalStateException if there are 24 COROUTINES");
        YieldMoor x = new YieldMoor();
        x.body();
        x.body();
        for (int n = 0; n < 24; n++) due("start", x.start(n % 2), n);
        due("it is a TASK", x.of(23, 2), 1);
        due("it is NEW", x.of(23, 1), NEW);
        due("its BODY", x.of(23, 0), 1);
        throwsState("a 25th", () -> x.start(1));
        for (int body : new int[] {MIN, -1, 2, 8, MAX}) throwsBounds("start(" + body + ")", () -> x.start(body));
        x.run(50);
        throwsState("a 25th as all are OVER", () -> x.start(1));
        YieldMoor y = new YieldMoor();
        y.body();
        for (int body : new int[] {MIN, -1, 1, 8, MAX}) throwsBounds("start(" + body + ")", () -> y.start(body));
        due("READY ones", y.many(8), 0);
    }

    private static void promise10() {
        sentence("promise 10", "Does turns, as long as there is a READY one .. turns: how many at most .. Returns how many were "
            + "done.");
        YieldMoor x = new YieldMoor();
        due("without a TASK", x.run(1), 0);
        due("without a TASK", x.run(50), 0);
        int loops = x.body();
        for (int n = 0; n < 12; n++) x.line(loops, YIELD, 0, 0);
        for (int n = 0; n < 4; n++) x.start(loops);
        due("1 turn", x.run(1), 1);
        due("50 turns", x.run(50), 50);
        due("turns", x.many(11), 51);
        due("the last one", x.run(50), 1);
        due("none", x.run(1), 0);
        due("turns", x.many(11), 52);
        due("RETURNED", x.many(6), 4);
        YieldMoor y = new YieldMoor();
        y.start(write(y, SLEEP, 1, 0));
        due("till none is READY", y.run(2), 1);
    }

    private static void promise10Throws() {
        sentence("promise 10", "Throws IllegalArgumentException if turns is not 1 to 50");
        YieldMoor x = new YieldMoor();
        x.start(x.body());
        for (int turns : new int[] {MIN, -1, 0, 51, MAX}) throwsArgument("run(" + turns + ")", () -> x.run(turns));
        due("turns", x.many(11), 0);
        due("run(50)", x.run(50), 1);
    }

    private static void promise11() {
        sentence("promise 11", "NOW becomes 1 more, so many times .. Returns how many TASKS became READY by that.");
        YieldMoor x = new YieldMoor();
        due("without a TASK", x.tick(20), 0);
        due("NOW", x.many(9), 20);
        for (int a = 1; a <= 9; a++) {
            if (a > 1 && a < 8) continue;
            int body = write(x, SLEEP, a, 0);
            x.start(body);
            x.start(body);
        }
        x.run(50);
        due("1 tick", x.tick(1), 2);
        due("20 ticks", x.tick(20), 4);
        due("NOW", x.many(9), 41);
        due("READY ones", x.many(8), 6);
        due("those who are READY become it no more", x.tick(20), 0);
        YieldMoor y = new YieldMoor();
        y.start(write(y, YIELD, 0, 0));
        y.run(1);
        due("one at a YIELD is READY already", y.tick(20), 0);
    }

    private static void promise11Throws() {
        sentence("promise 11", "Throws IllegalArgumentException if ticks is not 1 to 20");
        YieldMoor x = new YieldMoor();
        for (int ticks : new int[] {MIN, -1, 0, 21, MAX}) throwsArgument("tick(" + ticks + ")", () -> x.tick(ticks));
        due("NOW", x.many(9), 0);
    }

    private static void promise12() {
        sentence("promise 12", "Returns whether it was not asked already (false, if it is OVER).");
        YieldMoor x = new YieldMoor();
        int leaf = write(x, TRY, 0, 2, SLEEP, 9, 0, SLEEP, 9, 0);
        int t = x.start(leaf);
        due("a NEW one", x.cancel(t), true);
        due("asked already", x.cancel(t), false);
        x.run(1);
        due("heeded, so it is asked anew", x.cancel(t), true);
        due("asked already", x.cancel(t), false);
        x.run(1);
        due("FAILED", x.of(t, 1), FAILED);
        due("OVER", x.cancel(t), false);
        int r = x.start(x.body());
        x.run(1);
        due("RETURNED", x.cancel(r), false);
        int asked = x.start(1);
        x.cancel(asked);
        x.run(1);
        due("RETURNED, and was asked ahead of that", x.cancel(asked), false);
        x.start(write(x, SPAWN, leaf, 0, YIELD, 0, 0, THROW, 1, 0));
        x.run(3);
        due("asked as the one that SPAWNED it was FAILED", x.cancel(4), false);
    }

    private static void promise12Throws() {
        sentence("promise 12", "Throws IndexOutOfBoundsException if there is no such TASK");
        YieldMoor x = sorts();
        for (int n : new int[] {MIN, -1, 0, 1, 2, 4, 5, 6, 24, MAX}) throwsBounds("cancel(" + n + ")", () -> x.cancel(n));
        due("the TASK", x.cancel(3), true);
    }
}

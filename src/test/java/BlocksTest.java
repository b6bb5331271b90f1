/** Sections 1 and 2 as promises 6, 13, 14 and 15 show them: what LINES do, BLOCKS, WAYS, and LINES that are too many. */
public final class BlocksTest {
    private static final int OVER = -20000;

    public static void main(String[] args) {
        plainLines();
        held();
        loopAndSkip();
        noLine();
        caught();
        done();
        last();
        throwLosesWays();
        returnThroughFinally();
        returnDoneAgain();
        stackIsFull();
        stackPlaces();
        tooLong();
        tooLongIsHeldUp();
        tooLongInInner();
        countedAnew();
        Check.end("BlocksTest");
    }

    /** What a GENERATOR of such a BODY was RETURNED or FAILED with, as it is RESUMED once. */
    private static void ends(String what, int told, int there, int... lines) {
        YieldMoor x = new YieldMoor();
        int g = x.generator(Check.write(x, lines));
        Check.due(what + ": resume", x.resume(g, 0), told);
        Check.due(what + ": what there is", x.of(g, 4), there);
        Check.due(what + ": STACK", x.of(g, 5), 0);
        Check.due(what + ": where it WAITS", x.of(g, 3), Check.NONE);
    }

    private static void plainLines() {
        YieldMoor x = new YieldMoor();
        int g = x.generator(Check.write(x, Check.ADD, 7, 0, Check.PUT, 3, 0, Check.ADD, -9, 0, Check.PUT, 0, 0,
            Check.GET, 3, 0, Check.RETURN, 0, 0));
        Check.due("RETURN", x.resume(g, 5), OVER);
        Check.due("what there is", x.of(g, 4), 7);
        int[] due = {-2, 0, 0, 7};
        for (int local = 0; local < 4; local++) Check.due("LOCAL " + local, x.local(g, local), due[local]);
        Check.due("LINES done", x.of(g, 7), 6);
        ends("SHIELD in a GENERATOR", OVER, 1, Check.SHIELD, 0, 0, Check.SHIELD, 1, 0, Check.ADD, 1, 0);
        ends("SLEEP in a GENERATOR", OVER - 3, 3, Check.SLEEP, 1, 0);
        ends("AWAIT in a GENERATOR", OVER - 3, 3, Check.AWAIT, 0, 0);
        ends("SPAWN in a GENERATOR", OVER - 3, 3, Check.SPAWN, 0, 0);
        ends("THROW", OVER - 7, 7, Check.ADD, 50, 0, Check.THROW, 7, 0);
    }

    private static void held() {
        YieldMoor x = new YieldMoor();
        int up = x.generator(Check.write(x, Check.YIELD, 0, 0, Check.PUT, 0, 0, Check.ADD, 99, 0, Check.LOOP, 0, 2));
        x.resume(up, 0);
        Check.due("120 times 99", x.resume(up, 95), OVER);
        Check.due("held to", x.of(up, 4), 95 + 96 * 99);
        int g = x.generator(Check.write(x, Check.YIELD, 0, 0, Check.ADD, 99, 0, Check.YIELD, 0, 0, Check.ADD, 99, 0,
            Check.LOOP, 0, 3));
        x.resume(g, 0);
        Check.due("999 + 99", x.resume(g, 999), 1098);
        heldTo(99, 9999);
        heldTo(-99, -9999);
    }

    /** 91 times in one call, 31 times in the next one, so that neither takes too long. */
    private static void heldTo(int step, int due) {
        YieldMoor x = new YieldMoor();
        int g = x.generator(Check.write(x, Check.ADD, 90, 0, Check.PUT, 0, 0, Check.ADD, step, 0, Check.LOOP, 0, 2,
            Check.PUT, 1, 0, Check.YIELD, 0, 0, Check.PUT, 2, 0, Check.GET, 1, 0, Check.ADD, step, 0, Check.LOOP, 2, 8,
            Check.YIELD, 0, 0, Check.ADD, step > 0 ? -1 : 1, 0));
        Check.due("91 times", x.resume(g, 0), 90 + 91 * step);
        Check.due("31 times more", x.wouldGive(g, 30), due);
        Check.due("8 times more", x.resume(g, 7), 90 + 91 * step + 8 * step);
        x = new YieldMoor();
        g = x.generator(Check.write(x, Check.YIELD, 0, 0, Check.PUT, 0, 0, Check.GET, 1, 0, Check.ADD, step, 0,
            Check.PUT, 1, 0, Check.LOOP, 0, 3, Check.YIELD, 0, 0, Check.DONE, 0, 8, Check.PUT, 0, 0, Check.GET, 1, 0,
            Check.LOOP, 0, 3));
        x.resume(g, 0);
        Check.due("61 times", x.resume(g, 60), 61 * step);
        Check.due("121 times", x.resume(g, 60), due);
        Check.due("it is what is held that is put", x.local(g, 1), due);
    }

    private static void loopAndSkip() {
        ends("LOOP 3 times", OVER, 43, Check.ADD, 3, 0, Check.PUT, 1, 0, Check.ADD, 10, 0, Check.LOOP, 1, 2);
        ends("LOOP at a LOCAL of 0", OVER, 1, Check.LOOP, 0, 0, Check.ADD, 1, 0);
        ends("LOOP at a LOCAL below 0", OVER, -4, Check.ADD, -5, 0, Check.PUT, 2, 0, Check.LOOP, 2, 0, Check.ADD, 1, 0);
        ends("LOOP to itself", OVER, 4, Check.ADD, 4, 0, Check.PUT, 2, 0, Check.LOOP, 2, 2);
        ends("SKIP at 0", OVER, 2, Check.SKIP, 0, 2, Check.ADD, 1, 0, Check.ADD, 2, 0);
        ends("SKIP below 0", OVER, 1, Check.ADD, -1, 0, Check.SKIP, 0, 3, Check.ADD, 10, 0, Check.ADD, 2, 0);
        ends("SKIP above 0", OVER, 4, Check.ADD, 1, 0, Check.SKIP, 0, 3, Check.ADD, 1, 0, Check.ADD, 2, 0);
    }

    private static void noLine() {
        ends("a BODY without LINES", OVER, 0);
        ends("SKIP to where no LINE is", OVER, 0, Check.SKIP, 0, 12, Check.ADD, 1, 0);
        ends("a HANDLER where no LINE is", OVER, 6, Check.TRY, 0, 11, Check.THROW, 6, 0);
        ends("a FINALLY whose HANDLER is no LINE", OVER, 0, Check.TRY, 1, 11, Check.THROW, 6, 0);
        YieldMoor x = new YieldMoor();
        x.resume(x.generator(Check.write(x)), 0);
        Check.due("LINES done where none is", x.of(0, 7), 0);
        Check.due("LINES done ever where none is", x.many(10), 0);
    }

    private static void caught() {
        ends("CATCH", OVER, 15, Check.TRY, 0, 3, Check.THROW, 5, 0, Check.ADD, 50, 0, Check.ADD, 10, 0);
        ends("the last CATCH", OVER, 25, Check.TRY, 0, 4, Check.TRY, 0, 3, Check.THROW, 5, 0, Check.ADD, 10, 0,
            Check.ADD, 10, 0);
        ends("a CATCH is taken off", OVER - 3, 3, Check.TRY, 0, 2, Check.THROW, 5, 0, Check.THROW, 3, 0);
        ends("a CATCH that was DONE", OVER - 5, 5, Check.TRY, 0, 3, Check.DONE, 0, 2, Check.THROW, 5, 0);
    }

    private static void done() {
        ends("DONE without a BLOCK", OVER, 2, Check.DONE, 0, 2, Check.ADD, 1, 0, Check.ADD, 2, 0);
        ends("DONE of a CATCH", OVER, 2, Check.TRY, 0, 2, Check.DONE, 0, 3, Check.ADD, 1, 0, Check.ADD, 2, 0);
        ends("DONE of a FINALLY", OVER, 44, Check.TRY, 1, 3, Check.DONE, 0, 5, Check.ADD, 1, 0, Check.ADD, 4, 0,
            Check.LAST, 0, 0, Check.ADD, 40, 0);
        YieldMoor x = new YieldMoor();
        int g = x.generator(Check.write(x, Check.TRY, 1, 2, Check.DONE, 0, 3, Check.DONE, 0, 4, Check.ADD, 1, 0,
            Check.YIELD, 0, 0));
        Check.due("DONE at a WAY", x.resume(g, 0), 0);
        Check.due("the WAY stays", x.stack(g, 0), -3);
    }

    private static void last() {
        ends("LAST without a WAY", OVER, 1, Check.LAST, 0, 0, Check.ADD, 1, 0);
        ends("LAST at a BLOCK", OVER, 4, Check.TRY, 0, 3, Check.LAST, 0, 0, Check.THROW, 4, 0);
        ends("LAST THROWS again", OVER - 6, 6, Check.TRY, 1, 2, Check.THROW, 6, 0, Check.ADD, 9, 0, Check.LAST, 0, 0);
        ends("LAST THROWS to a CATCH", OVER, 16, Check.TRY, 0, 5, Check.TRY, 1, 3, Check.THROW, 6, 0, Check.LAST, 0, 0,
            Check.ADD, 50, 0, Check.ADD, 10, 0);
        ends("LAST RETURNS again", OVER, 3, Check.TRY, 1, 3, Check.ADD, 3, 0, Check.RETURN, 0, 0, Check.ADD, 50, 0,
            Check.LAST, 0, 0, Check.ADD, 50, 0);
        ends("LAST to a LINE", OVER, 5, Check.TRY, 1, 3, Check.DONE, 0, 4, Check.ADD, 1, 0, Check.LAST, 0, 0,
            Check.ADD, 5, 0);
    }

    private static void throwLosesWays() {
        ends("a THROW loses the WAY of another", OVER - 2, 2, Check.TRY, 1, 2, Check.THROW, 1, 0, Check.THROW, 2, 0);
        ends("a RETURN loses the WAY of a THROW", OVER, 8, Check.TRY, 1, 2, Check.THROW, 1, 0, Check.ADD, 8, 0,
            Check.RETURN, 0, 0);
        ends("a THROW loses the WAY of a RETURN", OVER - 4, 4, Check.TRY, 1, 2, Check.RETURN, 0, 0, Check.THROW, 4, 0);
        ends("a THROW loses a WAY on the way to its CATCH", OVER, 2, Check.TRY, 0, 4, Check.TRY, 1, 3, Check.THROW, 1, 0,
            Check.THROW, 2, 0);
    }

    private static void returnThroughFinally() {
        ends("a RETURN passes a CATCH", OVER, 1, Check.ADD, 1, 0, Check.TRY, 0, 3, Check.RETURN, 0, 0, Check.ADD, 9, 0);
        ends("two FINALLY", OVER, 1, Check.ADD, 1, 0, Check.TRY, 1, 6, Check.TRY, 1, 4, Check.RETURN, 0, 0,
            Check.ADD, 20, 0, Check.LAST, 0, 0, Check.PUT, 2, 0, Check.LAST, 0, 0);
        ends("the RETURN of a HANDLER", OVER, 21, Check.ADD, 1, 0, Check.TRY, 1, 3, Check.RETURN, 0, 0, Check.ADD, 20, 0);
    }

    /** LAST that does a RETURN again: that bears its own value, and what there is stays what it is. */
    private static void returnDoneAgain() {
        YieldMoor x = new YieldMoor();
        int body = Check.write(x, Check.ADD, 1, 0, Check.TRY, 1, 7, Check.TRY, 0, 10, Check.TRY, 1, 5,
            Check.RETURN, 0, 0, Check.ADD, 20, 0, Check.LAST, 0, 0, Check.PUT, 2, 0, Check.YIELD, 0, 0, Check.LAST, 0, 0);
        int g = x.generator(body);
        Check.due("what there is in the next HANDLER", x.resume(g, 0), 21);
        Check.due("the LOCAL", x.local(g, 2), 21);
        Check.due("what there is", x.of(g, 4), 21);
        Check.due("the RETURN on the STACK", x.stack(g, 0), -4);
        Check.due("LAST", x.resume(g, 500), OVER);
        Check.due("with what it was RETURNED", x.of(g, 4), 1);
        int outer = x.generator(Check.write(x, Check.FROM, body, 0, Check.YIELD, 0, 0));
        Check.due("of the INNER one", x.resume(outer, 0), 21);
        Check.due("what the INNER one would be RETURNED with", x.wouldGive(outer, 500), 1);
        Check.due("what the INNER one was RETURNED with", x.resume(outer, 500), 1);

        ends("three FINALLY", OVER, 3, Check.ADD, 3, 0, Check.TRY, 1, 9, Check.TRY, 1, 7, Check.TRY, 1, 5,
            Check.RETURN, 0, 0, Check.ADD, 20, 0, Check.LAST, 0, 0, Check.ADD, 40, 0, Check.LAST, 0, 0, Check.LAST, 0, 0);
        ends("no LINE behind the next HANDLER", OVER, 24, Check.ADD, 1, 0, Check.TRY, 1, 6, Check.TRY, 1, 4,
            Check.RETURN, 0, 0, Check.ADD, 20, 0, Check.LAST, 0, 0, Check.ADD, 3, 0);
        ends("another RETURN in the next HANDLER", OVER, 24, Check.ADD, 1, 0, Check.TRY, 1, 6, Check.TRY, 1, 4,
            Check.RETURN, 0, 0, Check.ADD, 20, 0, Check.LAST, 0, 0, Check.ADD, 3, 0, Check.RETURN, 0, 0, Check.ADD, 9, 0);
        ends("another RETURN through a FINALLY of the next HANDLER", OVER, 24, Check.ADD, 1, 0, Check.TRY, 1, 6,
            Check.TRY, 1, 4, Check.RETURN, 0, 0, Check.ADD, 20, 0, Check.LAST, 0, 0, Check.ADD, 3, 0, Check.TRY, 1, 9,
            Check.RETURN, 0, 0, Check.ADD, 9, 0, Check.LAST, 0, 0);
        ends("another RETURN in between, which was lost", OVER, 1, Check.ADD, 1, 0, Check.TRY, 1, 3, Check.RETURN, 0, 0,
            Check.TRY, 0, 8, Check.TRY, 1, 7, Check.ADD, 23, 0, Check.RETURN, 0, 0, Check.THROW, 3, 0, Check.LAST, 0, 0);
        ends("THROWN again, what there is stays too", OVER, 24, Check.ADD, 1, 0, Check.TRY, 1, 6, Check.TRY, 1, 4,
            Check.THROW, 7, 0, Check.ADD, 20, 0, Check.LAST, 0, 0, Check.ADD, 3, 0);
    }

    private static void stackIsFull() {
        int t = Check.TRY;
        ends("a 7th TRY", OVER, 15, t, 0, 8, t, 0, 8, t, 0, 8, t, 0, 8, t, 0, 8, t, 0, 8, t, 0, 9, Check.RETURN, 0, 0,
            Check.ADD, 10, 0);
        ends("a 7th TRY at 6 FINALLY", OVER - 5, 5, t, 1, 8, t, 1, 8, t, 1, 8, t, 1, 8, t, 1, 8, t, 1, 8, t, 1, 9,
            Check.RETURN, 0, 0, Check.LAST, 0, 0);
        YieldMoor x = new YieldMoor();
        int g = x.generator(Check.write(x, t, 0, 8, t, 1, 8, t, 0, 8, t, 1, 8, t, 0, 8, t, 1, 8, Check.YIELD, 0, 0));
        Check.due("6 are not too many", x.resume(g, 0), 0);
        Check.due("6 on the STACK", x.of(g, 5), 6);
    }

    private static void stackPlaces() {
        YieldMoor x = new YieldMoor();
        int g = x.generator(Check.write(x, Check.TRY, 1, 3, Check.TRY, 0, 2, Check.THROW, 6, 0, Check.TRY, 1, 5,
            Check.RETURN, 0, 0, Check.TRY, 1, 7, Check.DONE, 0, 7, Check.TRY, 0, 12, Check.TRY, 1, 12, Check.YIELD, 0, 0));
        Check.due("resume", x.resume(g, 0), 6);
        int[] due = {6, -4, -3, -1, -2};
        Check.due("on the STACK", x.of(g, 5), 5);
        for (int place = 0; place < 5; place++) Check.due("place " + place, x.stack(g, place), due[place]);
        Check.throwsBounds("place 5", () -> x.stack(g, 5));
        Check.throwsBounds("place -1", () -> x.stack(g, -1));
        Check.throwsBounds("place MAX", () -> x.stack(g, Integer.MAX_VALUE));
        Check.throwsBounds("COROUTINE 1", () -> x.stack(1, 0));
        Check.throwsBounds("COROUTINE -1", () -> x.stack(-1, 0));
    }

    /** A BODY that goes on for ever, of these LINES ahead: LOCAL 0 is 1 more, LOOP takes it away again. */
    private static int endless(YieldMoor x, int... ahead) {
        int body = Check.write(x, ahead);
        int n = ahead.length / 3;
        x.line(body, Check.GET, 0, 0);
        x.line(body, Check.ADD, 1, 0);
        x.line(body, Check.PUT, 0, 0);
        x.line(body, Check.LOOP, 0, n);
        return body;
    }

    private static void tooLong() {
        YieldMoor x = new YieldMoor();
        int g = x.generator(endless(x));
        Check.due("without an end", x.resume(g, 0), OVER - 11);
        Check.due("LINES done", x.of(g, 7), 200);
        Check.due("what there is", x.of(g, 4), 11);
        int caught = x.generator(endless(x, Check.TRY, 0, 11));
        Check.due("no CATCH of 11", x.resume(caught, 0), OVER - 11);
        Check.due("LINES done", x.of(caught, 7), 200);
        int exact = Check.write(x, Check.ADD, 65, 0, Check.PUT, 0, 0, Check.ADD, 1, 0, Check.ADD, 1, 0,
            Check.LOOP, 0, 2);
        Check.due("exactly 200 LINES", x.resume(x.generator(exact), 0), OVER);
        Check.due("LINES done", x.of(2, 7), 200);
        int behind = Check.write(x, Check.ADD, 65, 0, Check.PUT, 0, 0, Check.ADD, 1, 0, Check.ADD, 1, 0,
            Check.LOOP, 0, 2, Check.RETURN, 0, 0);
        Check.due("a RETURN as the 201st LINE", x.resume(x.generator(behind), 0), OVER - 11);
        Check.due("LINES done", x.of(3, 7), 200);
    }

    private static void tooLongIsHeldUp() {
        YieldMoor x = new YieldMoor();
        int g = x.generator(endless(x, Check.TRY, 1, 2, Check.TRY, 1, 2));
        Check.due("a FINALLY that goes on for ever", x.resume(g, 0), OVER - 11);
        Check.due("LINES done", x.of(g, 7), 300);
        Check.due("STACK", x.of(g, 5), 0);
        int held = Check.write(x, Check.TRY, 1, 6, Check.GET, 0, 0, Check.ADD, 1, 0, Check.PUT, 0, 0, Check.LOOP, 0, 1,
            Check.YIELD, 0, 0, Check.YIELD, 0, 0, Check.LAST, 0, 0);
        int h = x.generator(held);
        Check.that("a FINALLY that YIELDS", x.resume(h, 0) > OVER);
        Check.due("LINES done", x.of(h, 7), 201);
        Check.due("11 on the STACK", x.stack(h, 0), 11);
        Check.due("11 again", x.resume(h, 0), OVER - 11);
        int k = x.generator(endless(x, Check.TRY, 1, 12, Check.TRY, 1, 2));
        Check.due("at 300 no HANDLER is left, not even one without a LINE", x.resume(k, 0), OVER - 11);
        Check.due("LINES done", x.of(k, 7), 300);
        int r = x.generator(endless(x, Check.TRY, 1, 12));
        Check.due("at 200 there is: it RETURNS", x.resume(r, 0), OVER);
        Check.due("LINES done", x.of(r, 7), 200);
    }

    private static void tooLongInInner() {
        YieldMoor x = new YieldMoor();
        int inner = endless(x);
        int g = x.generator(Check.write(x, Check.TRY, 1, 2, Check.FROM, inner, 0, Check.ADD, 5, 0, Check.YIELD, 0, 0));
        Check.due("the outer one's HANDLER", x.resume(g, 0), 5);
        Check.due("LINES of the INNER one", x.of(1, 7), 198);
        Check.due("LINES of the outer one", x.of(g, 7), 4);
        Check.due("the INNER one", x.of(1, 4), 11);
        int dead = endless(x, Check.TRY, 1, 1);
        int h = x.generator(Check.write(x, Check.TRY, 1, 2, Check.FROM, dead, 0, Check.ADD, 5, 0, Check.YIELD, 0, 0));
        Check.due("behind 300 no HANDLER begins", x.resume(h, 0), OVER - 11);
        Check.due("LINES of the INNER one", x.of(3, 7), 298);
        Check.due("LINES of the outer one", x.of(h, 7), 2);
    }

    private static void countedAnew() {
        YieldMoor x = new YieldMoor();
        int body = Check.write(x, Check.ADD, 60, 0, Check.PUT, 0, 0, Check.ADD, 1, 0, Check.ADD, 1, 0, Check.LOOP, 0, 2,
            Check.YIELD, 0, 0, Check.DONE, 0, 7, Check.ADD, 60, 0, Check.PUT, 0, 0, Check.ADD, 1, 0, Check.ADD, 1, 0,
            Check.LOOP, 0, 9);
        int g = x.generator(body);
        Check.due("186 LINES", x.resume(g, 0), 60 + 122);
        Check.due("186 LINES more", x.resume(g, 0), OVER);
        Check.due("LINES done", x.of(g, 7), 2 + 183 + 1 + 3 + 183);
        int raised = Check.write(x, Check.ADD, 60, 0, Check.PUT, 0, 0, Check.TRY, 1, 6, Check.ADD, 1, 0, Check.LOOP, 0, 3,
            Check.YIELD, 0, 0, Check.GET, 3, 0, Check.ADD, 60, 0, Check.PUT, 0, 0, Check.ADD, 1, 0, Check.LOOP, 0, 9,
            Check.RETURN, 0, 0);
        int r = x.generator(raised);
        x.resume(r, 0);
        Check.due("as it is THROWN into", x.raise(r, 1), OVER);
        int c = x.generator(raised);
        x.resume(c, 0);
        Check.due("as it is CLOSED", x.close(c), 0);
        Check.due("LINES of both", x.of(r, 7), x.of(c, 7));
        Check.that("what there is", x.of(r, 4) > 100 && x.of(c, 4) > 100);
    }
}

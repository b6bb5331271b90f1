/** Promises 19 to 24: wouldGive, wouldClose, overIn, isOverBy, left, digest; none of them changes anything. */
public final class WouldBeTest {
    private static final int OVER = -20000;

    public static void main(String[] args) {
        promise19();
        promise20();
        promise21();
        promise22();
        promise23();
        promise24();
        promise24OfRuns();
        nothingIsChanged();
        nothingIsLeftOver();
        Check.end("WouldBeTest");
    }

    private static void promise19() {
        YieldMoor x = new YieldMoor();
        Check.throwsBounds("wouldGive of none", () -> x.wouldGive(0, 0));
        int body = Check.write(x, Check.ADD, 2, 0, Check.YIELD, 0, 0, Check.ADD, 1, 0, Check.YIELD, 0, 0,
            Check.THROW, 5, 0);
        int g = x.generator(body);
        int task = x.start(body);
        Check.due("of a NEW one", x.wouldGive(g, 50), 2);
        Check.due("it is NEW yet", x.of(g, 1), 0);
        Check.due("resume", x.resume(g, 50), 2);
        Check.due("the most", x.wouldGive(g, 999), 1000);
        Check.due("the least", x.wouldGive(g, -999), -998);
        Check.due("resume", x.resume(g, 6), 7);
        Check.due("it would be FAILED", x.wouldGive(g, 0), OVER - 5);
        Check.throwsArgument("value 1000", () -> x.wouldGive(g, 1000));
        Check.throwsArgument("value -1000", () -> x.wouldGive(g, -1000));
        Check.throwsBounds("wouldGive of a TASK", () -> x.wouldGive(task, 0));
        Check.throwsBounds("wouldGive(-1)", () -> x.wouldGive(-1, 0));
        x.resume(g, 0);
        Check.throwsBounds("as it is OVER", () -> x.wouldGive(g, 0));
        Check.throwsBounds("as it is OVER, ahead of a wrong value", () -> x.wouldGive(g, 1000));
        int outer = x.generator(Check.write(x, Check.FROM, body, 0));
        Check.due("an INNER one would be made", x.wouldGive(outer, 0), 2);
        Check.due("it is not", x.many(1), 3);
    }

    private static void promise20() {
        YieldMoor x = new YieldMoor();
        Check.throwsBounds("wouldClose of none", () -> x.wouldClose(0));
        int body = Check.write(x, Check.TRY, 1, 3, Check.YIELD, 0, 0, Check.RETURN, 0, 0, Check.YIELD, 0, 0,
            Check.THROW, 3, 0);
        int g = x.generator(body);
        int task = x.start(body);
        Check.due("of a NEW one", x.wouldClose(g), 0);
        Check.due("it is NEW yet", x.of(g, 1), 0);
        x.resume(g, 0);
        Check.due("the FAULT", x.wouldClose(g), 8);
        Check.due("WAITS where it did", x.of(g, 3), 1);
        Check.due("the FAULT", x.close(g), 8);
        Check.due("CLOSED again", x.wouldClose(g), 0);
        Check.due("FAILED", x.resume(g, 0), OVER - 3);
        Check.due("as it is OVER", x.wouldClose(g), 0);
        Check.throwsBounds("wouldClose of a TASK", () -> x.wouldClose(task));
        Check.throwsBounds("wouldClose(2)", () -> x.wouldClose(2));
        int fails = x.generator(Check.write(x, Check.TRY, 1, 2, Check.YIELD, 0, 0, Check.THROW, 6, 0));
        x.resume(fails, 0);
        Check.due("it would be FAILED", x.wouldClose(fails), 6);
        int outer = x.generator(Check.write(x, Check.FROM, body, 0));
        x.resume(outer, 0);
        Check.due("the FAULT of the INNER one", x.wouldClose(outer), 8);
        Check.due("it is INNER yet", x.of(outer, 6), 4);
    }

    private static void promise21() {
        YieldMoor x = new YieldMoor();
        Check.throwsArgument("turns 0", () -> x.overIn(0));
        Check.throwsArgument("turns 51", () -> x.overIn(51));
        Check.due("without a TASK", x.overIn(50), 0);
        int once = Check.write(x, Check.ADD, 1, 0);
        int twice = Check.write(x, Check.YIELD, 0, 0);
        int sleeps = Check.write(x, Check.SLEEP, 1, 0);
        int spawns = Check.write(x, Check.SPAWN, once, 0, Check.SPAWN, once, 0);
        x.start(twice);
        x.start(once);
        x.start(sleeps);
        x.start(spawns);
        x.close(x.generator(once));
        int[] due = {0, 0, 1, 1, 2, 3, 4, 5, 5};
        for (int turns = 1; turns < due.length; turns++) Check.due("overIn", x.overIn(turns), due[turns]);
        Check.due("overIn the most", x.overIn(50), 5);
        x.run(2);
        Check.due("those that are OVER too", x.overIn(2), 2);
        x.run(50);
        Check.due("as none is READY", x.overIn(1), 5);
        Check.due("turns", x.many(11), 7);
    }

    private static void promise22() {
        YieldMoor x = new YieldMoor();
        Check.throwsBounds("isOverBy of none", () -> x.isOverBy(0, 1));
        int sleeps = Check.write(x, Check.SLEEP, 9, 0);
        int yields = Check.write(x, Check.YIELD, 0, 0);
        int shields = Check.write(x, Check.SHIELD, 1, 0, Check.SLEEP, 9, 0);
        int a = x.start(sleeps);
        int b = x.start(yields);
        int c = x.start(shields);
        int g = x.generator(sleeps);
        x.run(3);
        Check.due("b's turn is the first", x.isOverBy(a, 1), false);
        Check.due("a's is the second", x.isOverBy(a, 2), true);
        Check.due("a is not CANCELLED by that", x.ofTask(a, 4), 0);
        Check.due("b in 1", x.isOverBy(b, 1), true);
        Check.due("c is SHIELDED", x.isOverBy(c, 50), false);
        x.cancel(a);
        x.run(2);
        Check.due("it is OVER", x.isOverBy(a, 1), true);
        Check.throwsArgument("turns 0", () -> x.isOverBy(a, 0));
        Check.throwsArgument("turns 51", () -> x.isOverBy(a, 51));
        Check.throwsBounds("a GENERATOR, ahead of wrong turns", () -> x.isOverBy(g, 0));
        Check.throwsBounds("isOverBy(-1)", () -> x.isOverBy(-1, 1));
        Check.throwsBounds("isOverBy(4)", () -> x.isOverBy(4, 1));
    }

    private static void promise23() {
        YieldMoor x = new YieldMoor();
        Check.throwsBounds("left of none", () -> x.left(0));
        int three = Check.write(x, Check.YIELD, 0, 0, Check.YIELD, 0, 0, Check.YIELD, 0, 0);
        int g = x.generator(three);
        int task = x.start(three);
        for (int due = 3; due >= 0; due--) {
            Check.due("left", x.left(g), due);
            x.resume(g, 0);
        }
        Check.due("left as it is OVER", x.left(g), 0);
        int times = Check.write(x, Check.ADD, 18, 0, Check.PUT, 0, 0, Check.YIELD, 0, 0, Check.LOOP, 0, 2);
        int nineteen = x.generator(times);
        Check.due("19", x.left(nineteen), 19);
        int twenty = x.generator(Check.write(x, Check.ADD, 19, 0, Check.PUT, 0, 0, Check.YIELD, 0, 0, Check.LOOP, 0, 2));
        Check.due("20", x.left(twenty), 20);
        int more = x.generator(Check.write(x, Check.ADD, 99, 0, Check.PUT, 0, 0, Check.YIELD, 0, 0, Check.LOOP, 0, 2));
        Check.due("20 at most", x.left(more), 20);
        Check.throwsBounds("left of a TASK", () -> x.left(task));
        Check.throwsBounds("left(-1)", () -> x.left(-1));
        int ends = x.generator(Check.write(x, Check.YIELD, 0, 0, Check.SKIP, 0, 3, Check.YIELD, 0, 0));
        Check.due("RESUMED with 0", x.left(ends), 1);
        int failing = x.generator(Check.write(x, Check.YIELD, 0, 0, Check.FROM, three, 0, Check.THROW, 1, 0,
            Check.YIELD, 0, 0));
        Check.due("till it is FAILED", x.left(failing), 4);
    }

    private static long dueDigest(YieldMoor x) {
        long d = 7603;
        for (int what = 0; what <= 11; what++) d = d * 31 + x.many(what);
        for (int body = 0; body < x.many(0); body++) {
            for (int what = 0; what <= 2; what++) d = d * 31 + x.ofBody(body, what);
        }
        for (int n = 0; n < x.many(1); n++) {
            for (int what = 0; what <= 7; what++) d = d * 31 + x.of(n, what);
            for (int local = 0; local < 4; local++) d = d * 31 + x.local(n, local);
            for (int place = 0; place < x.of(n, 5); place++) d = d * 31 + x.stack(n, place);
            if (x.of(n, 2) == 0) {
                d = d * 31 + x.left(n);
                d = d * 31 + x.wouldClose(n);
            }
            if (x.of(n, 2) == 1) {
                for (int what = 0; what <= 6; what++) d = d * 31 + x.ofTask(n, what);
            }
        }
        return d * 31 + x.overIn(20);
    }

    private static void promise24() {
        YieldMoor x = new YieldMoor();
        Check.due("digest of a new one", x.digest(), -1427858338268644051L);
        int inner = Check.write(x, Check.TRY, 1, 2, Check.YIELD, 0, 0, Check.YIELD, 0, 0);
        int outer = Check.write(x, Check.TRY, 0, 12, Check.FROM, inner, 0, Check.YIELD, 0, 0);
        int task = Check.write(x, Check.SPAWN, inner, 0, Check.PUT, 1, 0, Check.SHIELD, 1, 0, Check.AWAIT, 0, 0,
            Check.SLEEP, 3, 0);
        x.resume(x.generator(outer), 0);
        x.generator(outer);
        x.start(task);
        for (int i = 0; i < 6; i++) {
            Check.due("digest", x.digest(), dueDigest(x));
            x.run(1);
        }
        x.tick(3);
        x.close(0);
        Check.due("digest", x.digest(), dueDigest(x));
    }

    private static void promise24OfRuns() {
        YieldMoor x = new YieldMoor();
        YieldMoor y = new YieldMoor();
        Check.due("of two new ones", x.digest(), y.digest());
        x.body();
        Check.that("a BODY counts", x.digest() != y.digest());
        y.body();
        Check.due("of two alike", x.digest(), y.digest());
        x.tick(1);
        Check.that("NOW counts", x.digest() != y.digest());
    }

    private static void nothingIsChanged() {
        YieldMoor x = new YieldMoor();
        int inner = Check.write(x, Check.TRY, 1, 3, Check.YIELD, 0, 0, Check.YIELD, 0, 0, Check.YIELD, 0, 0);
        int outer = Check.write(x, Check.ADD, 3, 0, Check.PUT, 0, 0, Check.FROM, inner, 0, Check.LOOP, 0, 2);
        int task = Check.write(x, Check.SPAWN, inner, 0, Check.AWAIT, 0, 0, Check.SLEEP, 3, 0, Check.LOOP, 0, 0);
        int g = x.generator(outer);
        x.resume(g, 0);
        int t = x.start(task);
        x.run(2);
        long before = x.digest();
        x.wouldGive(g, 3);
        x.wouldClose(g);
        x.overIn(50);
        x.isOverBy(t, 50);
        x.left(g);
        Check.due("digest", x.digest(), before);
        Check.throwsState("what throws changes nothing", () -> x.line(inner, Check.ADD, 1, 0));
        Check.throwsArgument("nor this", () -> x.resume(g, 1000));
        Check.throwsArgument("nor this", () -> x.raise(g, 0));
        Check.throwsArgument("nor this", () -> x.run(51));
        Check.throwsArgument("nor this", () -> x.tick(21));
        Check.due("digest", x.digest(), before);
    }

    /** What was made as one question was answered must not be there for the next one. */
    private static void nothingIsLeftOver() {
        YieldMoor x = new YieldMoor();
        int inner = Check.write(x, Check.ADD, 3, 0, Check.TRY, 1, 12, Check.TRY, 1, 12, Check.TRY, 1, 12,
            Check.YIELD, 0, 0);
        int g = x.generator(Check.write(x, Check.FROM, inner, 0));
        for (int i = 0; i < 4; i++) Check.due("wouldGive again", x.wouldGive(g, 0), 3);
        int puts = Check.write(x, Check.GET, 2, 0, Check.ADD, 3, 0, Check.PUT, 2, 0, Check.YIELD, 0, 0);
        int h = x.generator(Check.write(x, Check.FROM, puts, 0));
        for (int i = 0; i < 4; i++) Check.due("wouldGive again", x.wouldGive(h, 0), 3);
        YieldMoor y = new YieldMoor();
        int child = Check.write(y, Check.TRY, 0, 4, Check.YIELD, 0, 0, Check.YIELD, 0, 0, Check.YIELD, 0, 0,
            Check.SHIELD, 1, 0);
        y.start(Check.write(y, Check.SPAWN, child, 0, Check.YIELD, 0, 0, Check.THROW, 1, 0));
        for (int i = 0; i < 4; i++) Check.due("overIn again", y.overIn(4), 2);
    }
}

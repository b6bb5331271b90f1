/** "What it is": an object is used for at most 512 calls; the 512th still answers as the document says. */
public final class LastCallTest extends Check {
    public static void main(String[] args) {
        sentence("What it is", "An object is used for at most 512 calls after it has been made");
        ticks();
        lines();
        shields();
        digests();
        refusedCalls();
        Check.end("LastCallTest");
    }

    private static void ticks() {
        YieldMoor x = new YieldMoor();
        for (int call = 1; call <= 511; call++) x.tick(20);
        due("NOW as the 512th call", x.many(9), 511 * 20);
        x = new YieldMoor();
        x.body();
        x.line(0, SLEEP, 9, 0);
        x.start(0);
        for (int call = 4; call <= 510; call++) x.tick(20);
        x.run(1);
        due("a NOW above 9999 as the 512th call", x.ofTask(0, 1), 507 * 20 + 9);
    }

    /** 24 TASKS without an end, each with 105 LINES a turn (104 in its first one). */
    private static void lines() {
        YieldMoor x = new YieldMoor();
        write(x, ADD, 99, 0, PUT, 0, 0, LOOP, 0, 2, PUT, 3, 0, YIELD, 0, 0, LOOP, 3, 0);
        for (int n = 0; n < 24; n++) x.start(0);
        for (int call = 32; call <= 511; call++) due("turns", x.run(50), 50);
        due("LINES ever as the 512th call", x.many(10), 480 * 50 * 105 - 24);
    }

    private static void shields() {
        YieldMoor x = new YieldMoor();
        int s = SHIELD;
        write(x, s, 1, 0, s, 1, 0, s, 1, 0, s, 1, 0, s, 1, 0, s, 1, 0, s, 1, 0, s, 1, 0, ADD, 1, 0, PUT, 0, 0, YIELD, 0, 0,
            LOOP, 0, 0);
        x.start(0);
        for (int call = 15; call <= 511; call++) x.run(50);
        due("the SHIELD as the 512th call", x.ofTask(0, 3), 497 * 50 * 8);
    }

    /** The dearest call, again and again, on a machine that has all it can have. */
    private static void digests() {
        YieldMoor x = new YieldMoor();
        int deep = write(x, TRY, 1, 12, TRY, 1, 12, TRY, 1, 12, ADD, 99, 0, PUT, 0, 0, YIELD, 0, 0, LOOP, 0, 5);
        int outer = write(x, FROM, deep, 0);
        for (int n = 2; n < 8; n++) x.body();
        for (int n = 0; n < 24; n += 2) x.resume(x.generator(outer), 0);
        long first = x.digest();
        for (int call = 42; call <= 511; call++) x.digest();
        due("the last digest", x.digest(), first);
    }

    private static void refusedCalls() {
        YieldMoor x = new YieldMoor();
        for (int call = 1; call <= 511; call++) throwsBounds("a refused call", () -> x.generator(0));
        due("body as the 512th call", x.body(), 0);
    }
}

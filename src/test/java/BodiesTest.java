/** Promises 1 to 4: a new object, body, line, ofBody. */
public final class BodiesTest {
    public static void main(String[] args) {
        promise1();
        promise2();
        promise3Bounds();
        promise3Edges();
        promise3Order();
        promise4();
        promise4Ways();
        Check.end("BodiesTest");
    }

    private static void promise1() {
        YieldMoor x = new YieldMoor();
        for (int what = 0; what <= 11; what++) Check.due("many(" + what + ") of a new one", x.many(what), 0);
        Check.due("overIn of a new one", x.overIn(1), 0);
        Check.due("run of a new one", x.run(50), 0);
        Check.throwsBounds("no BODY 0 in a new one", () -> x.ofBody(0, 0));
        YieldMoor other = new YieldMoor();
        x.body();
        Check.due("another object's BODIES", other.many(0), 0);
    }

    private static void promise2() {
        YieldMoor x = new YieldMoor();
        for (int n = 0; n < 8; n++) Check.due("body()", x.body(), n);
        Check.throwsState("a 9th BODY", () -> x.body());
        Check.due("BODIES", x.many(0), 8);
        Check.due("LINES of a new BODY", x.ofBody(7, 0), 0);
    }

    private static void promise3Bounds() {
        YieldMoor x = new YieldMoor();
        Check.throwsBounds("line without a BODY", () -> x.line(0, 0, 0, 0));
        x.body();
        Check.throwsBounds("line(-1)", () -> x.line(-1, 0, 0, 0));
        Check.throwsBounds("line(1)", () -> x.line(1, 0, 0, 0));
        Check.throwsBounds("line(MAX)", () -> x.line(Integer.MAX_VALUE, 0, 0, 0));
        Check.throwsBounds("line(MIN) ahead of a wrong kind", () -> x.line(Integer.MIN_VALUE, 16, 0, 0));
        Check.throwsArgument("kind -1", () -> x.line(0, -1, 0, 0));
        Check.throwsArgument("kind 16", () -> x.line(0, 16, 0, 0));
        Check.due("LINES behind what throws", x.ofBody(0, 0), 0);
    }

    /** For each KIND the least and the most a and b at a LINE with the number 2, and one beyond each. */
    private static void promise3Edges() {
        int[][] edges = {
            {Check.ADD, -99, 99, 0, 0}, {Check.GET, 0, 3, 0, 0}, {Check.PUT, 0, 3, 0, 0}, {Check.YIELD, 0, 0, 0, 0},
            {Check.LOOP, 0, 3, 0, 2}, {Check.SKIP, 0, 0, 3, 12}, {Check.TRY, 0, 1, 3, 12}, {Check.DONE, 0, 0, 3, 12},
            {Check.LAST, 0, 0, 0, 0}, {Check.THROW, 1, 7, 0, 0}, {Check.FROM, 0, 7, 0, 0}, {Check.RETURN, 0, 0, 0, 0},
            {Check.SLEEP, 1, 9, 0, 0}, {Check.AWAIT, 0, 0, 0, 0}, {Check.SPAWN, 0, 7, 0, 0}, {Check.SHIELD, 0, 1, 0, 0}};
        for (int[] e : edges) {
            for (int a : new int[] {e[1] - 1, e[1], e[2], e[2] + 1, Integer.MAX_VALUE, Integer.MIN_VALUE}) {
                for (int b : new int[] {e[3] - 1, e[3], e[4], e[4] + 1, Integer.MAX_VALUE, Integer.MIN_VALUE}) {
                    oneEdge(e[0], a, b, a >= e[1] && a <= e[2] && b >= e[3] && b <= e[4]);
                }
            }
        }
    }

    private static void oneEdge(int kind, int a, int b, boolean fits) {
        YieldMoor x = new YieldMoor();
        int body = Check.write(x, Check.ADD, 1, 0, Check.ADD, 1, 0);
        String call = "line(0, " + kind + ", " + a + ", " + b + ")";
        if (fits) {
            Check.due(call, x.line(body, kind, a, b), 2);
        } else {
            Check.throwsArgument(call, () -> x.line(body, kind, a, b));
        }
        Check.due("LINES behind " + call, x.ofBody(body, 0), fits ? 3 : 2);
    }

    private static void promise3Order() {
        YieldMoor x = new YieldMoor();
        x.body();
        for (int n = 0; n < 12; n++) Check.due("line", x.line(0, Check.ADD, n, 0), n);
        Check.throwsState("a 13th LINE", () -> x.line(0, Check.ADD, 0, 0));
        Check.throwsArgument("a wrong 13th LINE", () -> x.line(0, Check.ADD, 100, 0));
        Check.throwsArgument("a 13th LINE has no b above it", () -> x.line(0, Check.SKIP, 0, 12));
        int inUse = Check.write(x, Check.YIELD, 0, 0);
        x.generator(inUse);
        Check.throwsState("a LINE as a COROUTINE was made", () -> x.line(inUse, Check.ADD, 0, 0));
        Check.throwsArgument("a wrong LINE as a COROUTINE was made", () -> x.line(inUse, Check.YIELD, 1, 0));
        int inner = Check.write(x, Check.YIELD, 0, 0);
        int outer = Check.write(x, Check.FROM, inner, 0);
        int generator = x.generator(outer);
        x.wouldGive(generator, 0);
        Check.due("a LINE as one would be made", x.line(inner, Check.ADD, 1, 0), 1);
        x.resume(generator, 0);
        Check.throwsState("a LINE as an INNER one was made", () -> x.line(inner, Check.ADD, 0, 0));
    }

    private static void promise4() {
        YieldMoor x = new YieldMoor();
        int inner = Check.write(x, Check.YIELD, 0, 0);
        int body = Check.write(x, Check.FROM, inner, 0, Check.ADD, 1, 0);
        Check.due("LINES", x.ofBody(body, 0), 2);
        Check.due("COROUTINES of none", x.ofBody(body, 1), 0);
        x.resume(x.generator(body), 0);
        x.start(body);
        Check.due("COROUTINES", x.ofBody(body, 1), 2);
        Check.due("INNER COROUTINES", x.ofBody(inner, 1), 1);
        Check.throwsBounds("ofBody(-1)", () -> x.ofBody(-1, 0));
        Check.throwsBounds("ofBody(2) ahead of a wrong what", () -> x.ofBody(2, 3));
        Check.throwsArgument("what -1", () -> x.ofBody(0, -1));
        Check.throwsArgument("what 3", () -> x.ofBody(0, 3));
    }

    private static void waits(int due, int... lines) {
        YieldMoor x = new YieldMoor();
        Check.due("waits in " + java.util.Arrays.toString(lines), x.ofBody(Check.write(x, lines), 2), due);
    }

    private static void promise4Ways() {
        int y = Check.YIELD;
        waits(0);
        waits(4, y, 0, 0, Check.FROM, 7, 0, Check.SLEEP, 1, 0, Check.AWAIT, 0, 0);
        waits(0, Check.SPAWN, 0, 0, Check.SHIELD, 1, 0, Check.GET, 0, 0, Check.PUT, 0, 0, Check.ADD, 0, 0);
        waits(0, Check.THROW, 1, 0, y, 0, 0);
        waits(0, Check.RETURN, 0, 0, y, 0, 0);
        waits(1, Check.DONE, 0, 2, y, 0, 0, y, 0, 0);
        waits(2, Check.SKIP, 0, 2, y, 0, 0, y, 0, 0);
        waits(1, Check.SKIP, 0, 3, Check.RETURN, 0, 0, y, 0, 0, y, 0, 0);
        waits(2, Check.TRY, 0, 3, y, 0, 0, Check.RETURN, 0, 0, y, 0, 0);
        waits(1, Check.TRY, 1, 2, Check.THROW, 1, 0, y, 0, 0);
        waits(2, Check.LAST, 0, 0, y, 0, 0, Check.LOOP, 0, 0, y, 0, 0);
        waits(1, Check.TRY, 0, 3, Check.RETURN, 0, 0, y, 0, 0, Check.LOOP, 0, 2, Check.RETURN, 0, 0);
        waits(0, Check.DONE, 0, 12, y, 0, 0);
    }
}

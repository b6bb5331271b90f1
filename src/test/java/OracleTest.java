/** Long runs of calls, chosen by a fixed row of numbers, on YieldMoor and on the Oracle: both must answer the same. */
public final class OracleTest {
    private static final int RUNS = 20000;
    private static final String[] NAMES = {"body", "line", "ofBody", "generator", "resume", "raise", "close", "start",
        "run", "tick", "cancel", "of", "local", "stack", "ofTask", "many", "meanLines", "wouldGive", "wouldClose",
        "overIn", "isOverBy", "left", "digest"};

    /** How often each KIND is written; the second row is for BODIES of many BLOCKS, which RETURN through them. */
    private static final int[] MIXED = {8, 5, 6, 16, 5, 4, 12, 8, 6, 5, 8, 3, 5, 8, 5, 4};
    private static final int[] BLOCKS = {8, 1, 2, 8, 1, 1, 14, 4, 8, 2, 1, 6, 1, 1, 1, 1};

    private static long seed;

    private static int any(int bound) {
        seed = seed * 6364136223846793005L + 1442695040888963407L;
        return (int) ((seed >>> 33) % bound);
    }

    private static int from(int low, int high) {
        return low + any(high - low + 1);
    }

    private static int odd() {
        int[] odds = {-1, 24, 25, 8, 13, 1000, -1000, Integer.MAX_VALUE, Integer.MIN_VALUE};
        return odds[any(odds.length)];
    }

    private static int or(int good) {
        return any(60) == 0 ? odd() : good;
    }

    public static void main(String[] args) {
        int[] seen = new int[NAMES.length];
        for (int run = 0; run < RUNS; run++) {
            seed = run * 7919L + 17;
            oneRun(run, seen);
        }
        for (int i = 0; i < NAMES.length; i++) Check.that(NAMES[i] + " was called", seen[i] > 100);
        Check.end("OracleTest");
    }

    private static void oneRun(int run, int[] seen) {
        YieldMoor x = new YieldMoor();
        Oracle o = new Oracle();
        StringBuilder log = new StringBuilder();
        boolean tasks = any(3) > 0;
        boolean generators = !tasks || any(3) == 0;
        int bodies = from(1, 8);
        for (int b = 0; b < bodies; b++) {
            if (!same(run, x, o, new int[] {0, 0, 0, 0, 0}, log)) return;
            boolean blocks = any(3) == 0;
            int lines = blocks ? from(6, 12) : from(0, 12);
            for (int n = 0; n < lines; n++) {
                int[] line = lineOf(blocks ? BLOCKS : MIXED, b, n, bodies, tasks);
                if (!same(run, x, o, line, log)) return;
            }
        }
        int calls = from(10, 90);
        for (int i = 0; i < calls; i++) {
            int[] call = callOf(o, tasks, generators);
            seen[call[0]]++;
            if (!same(run, x, o, call, log)) return;
        }
        seen[22]++;
        same(run, x, o, new int[] {22, 0, 0, 0, 0}, log);
    }

    private static int[] lineOf(int[] weights, int body, int n, int bodies, boolean tasks) {
        int sum = 0;
        for (int w : weights) sum += w;
        int pick = any(sum), kind = 0;
        while (pick >= weights[kind]) pick -= weights[kind++];
        if (weights == BLOCKS && n < 4 && any(2) == 0) kind = 6;
        if (!tasks && kind >= 12 && any(4) > 0) kind = 3;
        int a = 0, b = 0;
        switch (kind) {
            case 0: a = any(5) == 0 ? from(-99, 99) : from(-3, 5); break;
            case 1: case 2: a = any(4); break;
            case 4: a = any(4); b = from(0, n); break;
            case 5: case 7: b = Math.min(12, from(n + 1, n + 4)); break;
            case 6: a = any(2); b = from(n + 1, weights == BLOCKS ? 12 : Math.min(12, n + 5)); break;
            case 9: a = from(1, 7); break;
            case 10: case 14: a = any(12) == 0 ? any(8) : any(bodies); break;
            case 12: a = from(1, 4); break;
            case 15: a = any(2); break;
            default: break;
        }
        return new int[] {1, or(body), or(kind), or(a), or(b)};
    }

    private static int[] callOf(Oracle o, boolean tasks, boolean generators) {
        int cos = Math.max(1, o.many(1));
        int kind = any(100);
        if (kind < 60) {
            int[] does = generators && tasks ? new int[] {3, 4, 4, 5, 6, 7, 8, 8, 8, 9, 10}
                : tasks ? new int[] {7, 8, 8, 8, 8, 9, 9, 10} : new int[] {3, 4, 4, 4, 4, 5, 6};
            kind = does[any(does.length)];
        } else {
            kind = kind < 63 ? any(3) : from(11, 22);
        }
        int one = or(any(cos));
        switch (kind) {
            case 1: return new int[] {1, any(8), any(16), any(3), any(13), 0};
            case 2: return new int[] {2, or(any(8)), or(any(3)), 0, 0};
            case 3: case 7: return new int[] {kind, or(any(Math.max(1, o.many(0)))), 0, 0, 0};
            case 4: case 17: return new int[] {kind, one, or(any(2) == 0 ? from(-2, 2) : from(-999, 999)), 0, 0};
            case 5: return new int[] {5, one, or(from(1, 7)), 0, 0};
            case 8: case 19: return new int[] {kind, or(any(3) == 0 ? from(1, 50) : from(1, 4)), 0, 0, 0};
            case 9: return new int[] {9, or(any(4) == 0 ? from(1, 20) : from(1, 3)), 0, 0, 0};
            case 11: return new int[] {11, one, or(any(8)), 0, 0};
            case 12: return new int[] {12, one, or(any(4)), 0, 0};
            case 13: return new int[] {13, one, or(any(6)), 0, 0};
            case 14: return new int[] {14, one, or(any(7)), 0, 0};
            case 15: return new int[] {15, or(any(12)), 0, 0, 0};
            case 20: return new int[] {20, one, or(from(1, 20)), 0, 0};
            default: return new int[] {kind, one, 0, 0, 0};
        }
    }

    private static boolean same(int run, YieldMoor x, Oracle o, int[] c, StringBuilder log) {
        log.append(NAMES[c[0]]).append('(').append(c[1]).append(", ").append(c[2]).append(", ").append(c[3])
            .append(", ").append(c[4]).append(")\n");
        String got = answerOfX(x, c);
        String want = answerOfO(o, c);
        if (got.equals(want)) return true;
        Check.that("run " + run + ": answered " + got + ", due is " + want + " behind\n" + log, false);
        return false;
    }

    private static String answerOfX(YieldMoor x, int[] c) {
        try {
            switch (c[0]) {
                case 0: return "" + x.body();
                case 1: return "" + x.line(c[1], c[2], c[3], c[4]);
                case 2: return "" + x.ofBody(c[1], c[2]);
                case 3: return "" + x.generator(c[1]);
                case 4: return "" + x.resume(c[1], c[2]);
                case 5: return "" + x.raise(c[1], c[2]);
                case 6: return "" + x.close(c[1]);
                case 7: return "" + x.start(c[1]);
                case 8: return "" + x.run(c[1]);
                case 9: return "" + x.tick(c[1]);
                case 10: return "" + x.cancel(c[1]);
                case 11: return "" + x.of(c[1], c[2]);
                case 12: return "" + x.local(c[1], c[2]);
                case 13: return "" + x.stack(c[1], c[2]);
                case 14: return "" + x.ofTask(c[1], c[2]);
                case 15: return "" + x.many(c[1]);
                case 16: return "" + x.meanLines();
                case 17: return "" + x.wouldGive(c[1], c[2]);
                case 18: return "" + x.wouldClose(c[1]);
                case 19: return "" + x.overIn(c[1]);
                case 20: return "" + x.isOverBy(c[1], c[2]);
                case 21: return "" + x.left(c[1]);
                default: return "" + x.digest();
            }
        } catch (RuntimeException e) {
            return e.getClass().getName();
        }
    }

    private static String answerOfO(Oracle o, int[] c) {
        try {
            switch (c[0]) {
                case 0: return "" + o.body();
                case 1: return "" + o.line(c[1], c[2], c[3], c[4]);
                case 2: return "" + o.ofBody(c[1], c[2]);
                case 3: return "" + o.generator(c[1]);
                case 4: return "" + o.resume(c[1], c[2]);
                case 5: return "" + o.raise(c[1], c[2]);
                case 6: return "" + o.close(c[1]);
                case 7: return "" + o.start(c[1]);
                case 8: return "" + o.run(c[1]);
                case 9: return "" + o.tick(c[1]);
                case 10: return "" + o.cancel(c[1]);
                case 11: return "" + o.of(c[1], c[2]);
                case 12: return "" + o.local(c[1], c[2]);
                case 13: return "" + o.stack(c[1], c[2]);
                case 14: return "" + o.ofTask(c[1], c[2]);
                case 15: return "" + o.many(c[1]);
                case 16: return "" + o.meanLines();
                case 17: return "" + o.wouldGive(c[1], c[2]);
                case 18: return "" + o.wouldClose(c[1]);
                case 19: return "" + o.overIn(c[1]);
                case 20: return "" + o.isOverBy(c[1], c[2]);
                case 21: return "" + o.left(c[1]);
                default: return "" + o.digest();
            }
        } catch (RuntimeException e) {
            return e.getClass().getName();
        }
    }
}

/** Section 1, sentence by sentence: the boundaries that it names, and what lies just beyond each. */
public final class Section1EdgesTest extends Check {
    private static final int OVER = -20000;

    public static void main(String[] args) {
        eightBodies();
        twelveLines();
        nothingIsSaidOfIt();
        aLineAsNoCoroutineWasMade();
        aLineAsOneWouldBeMade();
        add();
        getAndPut();
        loopAboveZero();
        loopTo();
        skipAtZero();
        skipTo();
        tryWithHandler();
        doneTo();
        throwOneToSeven();
        fromAndSpawn();
        sleepAndShield();
        theLineBehind();
        noLine();
        noLineByEachWay();
        zeroAtFirst();
        zeroAtFirstInWhatWouldBe();
        held();
        Check.end("Section1EdgesTest");
    }

    private static void takes(int number, int kind, int a, int b) {
        YieldMoor x = bodyOf(number);
        due("line(0, " + kind + ", " + a + ", " + b + ") as the LINE " + number, x.line(0, kind, a, b), number);
        due("LINES behind it", x.ofBody(0, 0), number + 1);
    }

    private static void refuses(int number, int kind, int a, int b) {
        YieldMoor x = bodyOf(number);
        throwsArgument("line(0, " + kind + ", " + a + ", " + b + ") as the LINE " + number, () -> x.line(0, kind, a, b));
        due("LINES behind it", x.ofBody(0, 0), number);
    }

    /** A machine whose BODY 0 has so many LINES. */
    private static YieldMoor bodyOf(int lines) {
        YieldMoor x = new YieldMoor();
        x.body();
        for (int n = 0; n < lines; n++) x.line(0, LAST, 0, 0);
        return x;
    }

    /** What a GENERATOR of such a BODY tells as it is RESUMED once, and what there is then. */
    private static YieldMoor gives(String what, int told, int there, int... lines) {
        YieldMoor x = new YieldMoor();
        int g = x.generator(write(x, lines));
        due(what + ": resume", x.resume(g, 0), told);
        due(what + ": what there is", x.of(g, 4), there);
        return x;
    }

    private static void eightBodies() {
        sentence("section 1", "At most 8 BODIES, numbered from 0");
        YieldMoor x = new YieldMoor();
        for (int n = 0; n < 8; n++) due("body()", x.body(), n);
        throwsState("a 9th BODY", () -> x.body());
        throwsState("a 9th BODY, asked for again", () -> x.body());
        due("BODIES", x.many(0), 8);
        due("the BODY 7 is there", x.line(7, YIELD, 0, 0), 0);
        throwsBounds("the BODY 8 is not", () -> x.line(8, YIELD, 0, 0));
    }

    private static void twelveLines() {
        sentence("section 1", "each a row of at most 12 LINES, numbered from 0");
        YieldMoor x = new YieldMoor();
        for (int n = 0; n < 8; n++) x.body();
        for (int body = 0; body < 8; body += 7) {
            int full = body;
            for (int n = 0; n < 12; n++) due("line", x.line(full, ADD, 1, 0), n);
            throwsState("a 13th LINE of the BODY " + full, () -> x.line(full, ADD, 1, 0));
            due("LINES of the BODY " + full, x.ofBody(full, 0), 12);
            due("all 12 are done", x.resume(x.generator(full), 0), OVER);
        }
        due("with", x.of(0, 4), 12);
        due("with", x.of(1, 4), 12);
        due("another BODY has none", x.ofBody(1, 0), 0);
    }

    private static void nothingIsSaidOfIt() {
        sentence("section 1", "with an a and a b (0, if nothing is said about it)");
        for (int kind : new int[] {YIELD, SKIP, DONE, LAST, RETURN, AWAIT}) {
            int b = kind == SKIP || kind == DONE ? 5 : 0;
            takes(4, kind, 0, b);
            refuses(4, kind, 1, b);
            refuses(4, kind, -1, b);
        }
        for (int kind : new int[] {ADD, GET, PUT, YIELD, LAST, THROW, FROM, RETURN, SLEEP, AWAIT, SPAWN, SHIELD}) {
            int a = kind == THROW || kind == SLEEP ? 1 : 0;
            takes(4, kind, a, 0);
            refuses(4, kind, a, 1);
            refuses(4, kind, a, -1);
        }
    }

    private static void aLineAsNoCoroutineWasMade() {
        sentence("section 1", "A LINE of a BODY can be written as long as no COROUTINE was made of it.");
        YieldMoor x = new YieldMoor();
        int generators = write(x, ADD, 1, 0);
        int tasks = write(x, ADD, 1, 0);
        int inner = write(x, ADD, 1, 0);
        int spawned = write(x, ADD, 1, 0);
        int outer = write(x, SPAWN, spawned, 0, FROM, inner, 0);
        due("a LINE of a BODY that is named by others", x.line(spawned, ADD, 1, 0), 1);
        int g = x.generator(generators);
        throwsState("a LINE as a NEW GENERATOR is there", () -> x.line(generators, ADD, 1, 0));
        x.close(g);
        throwsState("a LINE as the GENERATOR is OVER", () -> x.line(generators, ADD, 1, 0));
        x.start(tasks);
        throwsState("a LINE as a TASK is there", () -> x.line(tasks, ADD, 1, 0));
        x.start(outer);
        due("a LINE ahead of the FROM", x.line(inner, ADD, 1, 0), 1);
        due("a LINE ahead of the SPAWN", x.line(spawned, ADD, 1, 0), 2);
        x.run(2);
        throwsState("a LINE as an INNER one was made", () -> x.line(inner, ADD, 1, 0));
        throwsState("a LINE as one was SPAWNED", () -> x.line(spawned, ADD, 1, 0));
        int empty = x.body();
        x.generator(empty);
        throwsState("the first LINE as a COROUTINE was made without any", () -> x.line(empty, ADD, 1, 0));
        due("LINES of it", x.ofBody(empty, 0), 0);
    }

    private static void aLineAsOneWouldBeMade() {
        sentence("section 1", "A LINE of a BODY can be written as long as no COROUTINE was made of it.");
        YieldMoor x = new YieldMoor();
        int inner = x.body();
        int g = x.generator(write(x, FROM, inner, 0, YIELD, 0, 0));
        int t = x.start(write(x, SPAWN, inner, 0));
        x.wouldGive(g, 0);
        x.wouldClose(g);
        x.left(g);
        x.overIn(50);
        x.isOverBy(t, 50);
        x.digest();
        due("a LINE as one would be made", x.line(inner, ADD, 1, 0), 0);
        while (x.many(1) < 24) x.generator(1);
        x.run(50);
        due("a SPAWN as there are 24 makes none", x.line(inner, ADD, 1, 0), 1);
        x.resume(g, 0);
        due("a FROM as there are 24 makes none", x.line(inner, ADD, 1, 0), 2);
    }

    private static void add() {
        sentence("section 1", "ADD: a (-99 to 99) is added to what there is.");
        for (int a : new int[] {-99, 0, 99}) {
            takes(2, ADD, a, 0);
            gives("ADD " + a, OVER, 7 + a, ADD, 7, 0, ADD, a, 0);
        }
        refuses(2, ADD, -100, 0);
        refuses(2, ADD, 100, 0);
    }

    private static void getAndPut() {
        sentence("section 1", "GET: there is then the LOCAL a (0 to 3). 2 PUT: the LOCAL a is then what there is.");
        for (int kind : new int[] {GET, PUT}) {
            takes(2, kind, 0, 0);
            takes(2, kind, 3, 0);
            refuses(2, kind, -1, 0);
            refuses(2, kind, 4, 0);
        }
        YieldMoor x = gives("PUT, then GET of each", 6, 6, ADD, 6, 0, PUT, 0, 0, ADD, 1, 0, PUT, 3, 0, GET, 0, 0,
            YIELD, 0, 0);
        due("the LOCAL 0", x.local(0, 0), 6);
        due("the LOCAL 1", x.local(0, 1), 0);
        due("the LOCAL 2", x.local(0, 2), 0);
        due("the LOCAL 3", x.local(0, 3), 7);
    }

    private static void loopAboveZero() {
        sentence("section 1", "LOOP: if the LOCAL a (0 to 3) is above 0, it is 1 less, and it goes on with the LINE b");
        for (int local = 0; local <= 3; local += 3) {
            for (int there = -1; there <= 2; there++) {
                int rounds = Math.max(0, there);
                YieldMoor x = gives("LOOP at a LOCAL of " + there, there, there, ADD, there, 0, PUT, local, 0,
                    LOOP, local, 2, YIELD, 0, 0);
                due("the LOCAL behind it", x.local(0, local), Math.min(0, there));
                due("LINES done", x.of(0, 7), 3 + rounds + 1);
            }
        }
    }

    private static void loopTo() {
        sentence("section 1", "it goes on with the LINE b (0 to its own number)");
        takes(0, LOOP, 0, 0);
        refuses(0, LOOP, 0, 1);
        for (int own : new int[] {3, 11}) {
            takes(own, LOOP, 3, 0);
            takes(own, LOOP, 0, own);
            refuses(own, LOOP, 0, -1);
            refuses(own, LOOP, 0, own + 1);
            refuses(own, LOOP, -1, 0);
            refuses(own, LOOP, 4, 0);
        }
        YieldMoor x = new YieldMoor();
        int g = x.generator(write(x, ADD, 1, 0, YIELD, 0, 0, PUT, 0, 0, LOOP, 0, 0, YIELD, 0, 0));
        due("ahead of the LOOP", x.resume(g, 0), 1);
        due("by the LINE 0", x.resume(g, 2), 3);
        due("the LOCAL", x.local(g, 0), 1);
        due("behind the LOOP", x.resume(g, 0), 0);
        due("it WAITS behind it", x.of(g, 3), 4);
        x = gives("LOOP to its own number", 9, 9, ADD, 9, 0, PUT, 2, 0, LOOP, 2, 2, YIELD, 0, 0);
        due("LINES done", x.of(0, 7), 13);
    }

    private static void skipAtZero() {
        sentence("section 1", "SKIP: if there is 0 or less, it goes on with the LINE b");
        gives("SKIP at 0", OVER, 2, SKIP, 0, 2, ADD, 50, 0, ADD, 2, 0);
        gives("SKIP at -1", OVER, 1, ADD, -1, 0, SKIP, 0, 3, ADD, 50, 0, ADD, 2, 0);
        gives("SKIP at 1", OVER, 53, ADD, 1, 0, SKIP, 0, 3, ADD, 50, 0, ADD, 2, 0);
    }

    private static void skipTo() {
        sentence("section 1", "it goes on with the LINE b (above its own number, up to 12)");
        for (int own : new int[] {0, 3, 11}) {
            takes(own, SKIP, 0, own + 1);
            takes(own, SKIP, 0, 12);
            refuses(own, SKIP, 0, own);
            refuses(own, SKIP, 0, 13);
        }
        gives("SKIP to the LINE behind", OVER, 4, SKIP, 0, 1, ADD, 4, 0);
        gives("SKIP to 12", OVER, 0, SKIP, 0, 12, ADD, 4, 0);
        gives("SKIP to the LINE 11", OVER, 9, SKIP, 0, 11, ADD, 1, 0, ADD, 1, 0, ADD, 1, 0, ADD, 1, 0, ADD, 1, 0,
            ADD, 1, 0, ADD, 1, 0, ADD, 1, 0, ADD, 1, 0, ADD, 1, 0, ADD, 9, 0);
    }

    private static void tryWithHandler() {
        sentence("section 1", "TRY: a BLOCK is opened, which is a CATCH (a 0) or a FINALLY (a 1), with the LINE b (above "
            + "its own number, up to 12) as its HANDLER.");
        for (int own : new int[] {0, 3, 11}) {
            for (int a = 0; a <= 1; a++) {
                takes(own, TRY, a, own + 1);
                takes(own, TRY, a, 12);
                refuses(own, TRY, a, own);
                refuses(own, TRY, a, 13);
            }
            refuses(own, TRY, -1, 12);
            refuses(own, TRY, 2, 12);
        }
        due("a 0", gives("a CATCH", 0, 0, TRY, 0, 12, YIELD, 0, 0).stack(0, 0), -1);
        due("a 1", gives("a FINALLY", 0, 0, TRY, 1, 12, YIELD, 0, 0).stack(0, 0), -2);
        gives("the LINE behind as HANDLER", 3, 3, TRY, 0, 1, SKIP, 0, 3, YIELD, 0, 0, THROW, 3, 0);
    }

    private static void doneTo() {
        sentence("section 1", "7 DONE, with a LINE b (above its own number, up to 12)");
        for (int own : new int[] {0, 3, 11}) {
            takes(own, DONE, 0, own + 1);
            takes(own, DONE, 0, 12);
            refuses(own, DONE, 0, own);
            refuses(own, DONE, 0, 13);
        }
        gives("DONE to the LINE behind", OVER, 4, DONE, 0, 1, ADD, 4, 0);
        gives("DONE to 12", OVER, 0, DONE, 0, 12, ADD, 4, 0);
    }

    private static void throwOneToSeven() {
        sentence("section 1", "THROW: a (1 to 7) is THROWN.");
        for (int a : new int[] {1, 7}) {
            takes(2, THROW, a, 0);
            gives("THROW " + a, OVER - a, a, THROW, a, 0, YIELD, 0, 0);
        }
        refuses(2, THROW, 0, 0);
        refuses(2, THROW, 8, 0);
        refuses(2, THROW, -1, 0);
    }

    private static void fromAndSpawn() {
        sentence("section 1", "the BODY a (0 to 7, there or not)");
        for (int kind : new int[] {FROM, SPAWN}) {
            takes(2, kind, 0, 0);
            takes(2, kind, 1, 0);
            takes(2, kind, 7, 0);
            refuses(2, kind, -1, 0);
            refuses(2, kind, 8, 0);
        }
        YieldMoor x = new YieldMoor();
        int g = x.generator(write(x, FROM, 1, 0, YIELD, 0, 0));
        due("the BODY 1 is not there yet", x.wouldGive(g, 0), OVER - 4);
        write(x, ADD, 33, 0);
        due("it is there, though later", x.resume(g, 0), 33);
    }

    private static void sleepAndShield() {
        sentence("section 1", "12 SLEEP: a (1 to 9), 13 AWAIT, 14 SPAWN: the BODY a (0 to 7, there or not), 15 SHIELD: a "
            + "(0 or 1)");
        takes(2, SLEEP, 1, 0);
        takes(2, SLEEP, 9, 0);
        refuses(2, SLEEP, 0, 0);
        refuses(2, SLEEP, 10, 0);
        takes(2, SHIELD, 0, 0);
        takes(2, SHIELD, 1, 0);
        refuses(2, SHIELD, -1, 0);
        refuses(2, SHIELD, 2, 0);
    }

    private static void theLineBehind() {
        sentence("section 1", "It goes on with the LINE behind, if nothing else is said.");
        for (int[] line : new int[][] {{ADD, 1, 0}, {GET, 0, 0}, {PUT, 0, 0}, {LOOP, 0, 0}, {TRY, 0, 12}, {LAST, 0, 0},
            {SHIELD, 1, 0}}) {
            YieldMoor x = new YieldMoor();
            int g = x.generator(write(x, line[0], line[1], line[2], YIELD, 0, 0, YIELD, 0, 0));
            x.resume(g, 0);
            due("the LINE behind the KIND " + line[0], x.of(g, 3), 1);
            x.resume(g, 0);
            due("the LINE behind a YIELD", x.of(g, 3), 2);
        }
    }

    private static void noLine() {
        sentence("section 1", "Where there is no LINE (it does not matter which number), that is a RETURN.");
        YieldMoor x = gives("a BODY without LINES", OVER, 0);
        due("RETURNED", x.of(0, 1), 3);
        due("no LINE was done", x.of(0, 7), 0);
        x = gives("behind the only LINE", OVER, 5, ADD, 5, 0);
        due("RETURNED", x.of(0, 1), 3);
        due("LINES done", x.of(0, 7), 1);
        gives("behind the LINE 11", OVER, 12, ADD, 1, 0, ADD, 1, 0, ADD, 1, 0, ADD, 1, 0, ADD, 1, 0, ADD, 1, 0,
            ADD, 1, 0, ADD, 1, 0, ADD, 1, 0, ADD, 1, 0, ADD, 1, 0, ADD, 1, 0);
        for (int b = 2; b <= 12; b++) {
            gives("the LINE " + b + " of 2", OVER, -3, ADD, -3, 0, SKIP, 0, b);
        }
        for (int b = 4; b <= 12; b++) {
            gives("the LINE " + b + " of 4, through a FINALLY", OVER - 6, 6, TRY, 1, 3, SKIP, 0, b, YIELD, 0, 0,
                THROW, 6, 0);
        }
    }

    private static void noLineByEachWay() {
        sentence("section 1", "Where there is no LINE (it does not matter which number), that is a RETURN.");
        for (int b = 3; b <= 12; b++) {
            gives("a HANDLER of a CATCH", OVER, 6, ADD, 40, 0, TRY, 0, b, THROW, 6, 0);
            gives("a HANDLER of a FINALLY", OVER, 40, ADD, 40, 0, TRY, 1, b, THROW, 6, 0);
            gives("DONE", OVER, 40, ADD, 40, 0, TRY, 0, 2, DONE, 0, b);
        }
        gives("a NORMAL WAY", OVER, 40, ADD, 40, 0, TRY, 1, 3, DONE, 0, 12, LAST, 0, 0, ADD, 1, 0);
        YieldMoor x = new YieldMoor();
        int inner = write(x, ADD, 2, 0, YIELD, 0, 0);
        int g = x.generator(write(x, FROM, inner, 0));
        x.resume(g, 0);
        due("behind a YIELD and behind a FROM", x.resume(g, 66), OVER);
        due("the INNER one is RETURNED with", x.of(1, 4), 66);
        due("the outer one is RETURNED with", x.of(g, 4), 66);
        due("a TASK behind a SPAWN", x.start(write(x, SPAWN, inner, 0)), 2);
        x.run(1);
        due("RETURNED with", x.of(2, 4), 3);
    }

    private static void zeroAtFirst() {
        sentence("section 1", "What there is, and each LOCAL, is 0 at first");
        YieldMoor x = new YieldMoor();
        int all = write(x, ADD, 5, 0, PUT, 0, 0, PUT, 1, 0, PUT, 2, 0, PUT, 3, 0, FROM, 1, 0);
        int inner = write(x, YIELD, 0, 0, GET, 3, 0, YIELD, 0, 0);
        int g = x.generator(all);
        int t = x.start(all);
        for (int n = g; n <= t; n++) {
            due("what there is in a NEW one", x.of(n, 4), 0);
            for (int local = 0; local <= 3; local++) due("a LOCAL of a NEW one", x.local(n, local), 0);
        }
        due("in an INNER one", x.resume(g, 700), 0);
        for (int local = 0; local <= 3; local++) due("a LOCAL of an INNER one", x.local(2, local), 0);
        due("a LOCAL of the outer one", x.local(g, 3), 5);
        due("GET of a LOCAL of the INNER one", x.resume(g, 70), 0);
        due("of its BODY", x.of(2, 0), inner);
    }

    /** What is made as a question is answered is 0 at first too, however often one asks. */
    private static void zeroAtFirstInWhatWouldBe() {
        sentence("section 1", "What there is, and each LOCAL, is 0 at first");
        for (int local = 0; local <= 3; local++) {
            YieldMoor x = new YieldMoor();
            int there = write(x, ADD, 5, 0, YIELD, 0, 0);
            int ofLocal = write(x, GET, local, 0, ADD, 5, 0, PUT, local, 0, YIELD, 0, 0);
            int g = x.generator(write(x, FROM, there, 0));
            int h = x.generator(write(x, FROM, ofLocal, 0));
            for (int again = 0; again < 3; again++) {
                due("what there is", x.wouldGive(g, 0), 5);
                due("the LOCAL " + local, x.wouldGive(h, 0), 5);
            }
            due("what there is", x.resume(g, 0), 5);
            due("the LOCAL " + local, x.resume(h, 0), 5);
        }
    }

    /** What is given behind 101 times step, and then a. */
    private static int behind101(int step, int a) {
        YieldMoor x = new YieldMoor();
        int g = x.generator(write(x, ADD, 2, 0, PUT, 3, 0, YIELD, 0, 0, PUT, 0, 0, GET, 1, 0, ADD, step, 0, PUT, 1, 0,
            LOOP, 0, 4, LOOP, 3, 2, GET, 1, 0, ADD, a, 0, YIELD, 0, 0));
        x.resume(g, 0);
        x.resume(g, 39);
        x.resume(g, 39);
        return x.resume(g, 20);
    }

    private static void held() {
        sentence("section 1", "what there is is held to -9999 to 9999");
        due("9999 and 0", behind101(99, 0), 9999);
        due("9999 and 1", behind101(99, 1), 9999);
        due("9999 and 99", behind101(99, 99), 9999);
        due("9999 and -1", behind101(99, -1), 9998);
        due("9898 and 99", behind101(98, 99), 9997);
        due("-9999 and 0", behind101(-99, 0), -9999);
        due("-9999 and -1", behind101(-99, -1), -9999);
        due("-9999 and -99", behind101(-99, -99), -9999);
        due("-9999 and 1", behind101(-99, 1), -9998);
        heldInALocal(99, 9999, 9998);
        heldInALocal(-99, -9999, -9998);
    }

    /** 120 times step, each PUT into the LOCAL 1: what is beyond is not kept anywhere. */
    private static void heldInALocal(int step, int most, int back) {
        YieldMoor x = new YieldMoor();
        int g = x.generator(write(x, ADD, 3, 0, PUT, 3, 0, YIELD, 0, 0, PUT, 0, 0, GET, 1, 0, ADD, step, 0, PUT, 1, 0,
            LOOP, 0, 4, LOOP, 3, 2, GET, 1, 0, ADD, step > 0 ? -1 : 1, 0, YIELD, 0, 0));
        x.resume(g, 0);
        for (int i = 0; i < 3; i++) x.resume(g, 39);
        due("the LOCAL", x.local(g, 1), most);
        due("one back", x.resume(g, 0), back);
    }
}

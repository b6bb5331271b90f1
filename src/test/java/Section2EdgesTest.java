/** Section 2, sentence by sentence: the STACK, BLOCKS, WAYS, and LINES that are too many. */
public final class Section2EdgesTest extends Check {
    private static final int OVER = -20000;

    public static void main(String[] args) {
        emptyAtFirst();
        sixAreOnIt();
        aSeventhTry();
        waysCountToo();
        takenOffMakesRoom();
        doneOfACatch();
        doneOfAFinally();
        doneOtherwise();
        lastOfAWay();
        lastOtherwise();
        aWayIsLost();
        putInPlaceOfAFinally();
        caughtFromOneToNine();
        nineIsCaught();
        tenAndElevenAreNotCaught();
        aReturnIsNotCaught();
        theStackIsEmpty();
        countedAnewWithEachCall();
        countedAnewEachTurn();
        countedAnewInWhatWouldBe();
        inAllTogether();
        the201st();
        the201stIsThrownOnce();
        the201stIsThrownThere();
        behind300();
        behind300InAnInnerOne();
        tooLongAsItIsClosed();
        Check.end("Section2EdgesTest");
    }

    /** Five LINES, the first with the number at, by which so many LINES (5 to 203) are done. */
    private static int[] spend(int at, int lines) {
        int rounds = lines - 5;
        int first = Math.min(99, rounds);
        return new int[] {GET, 3, 0, ADD, first, 0, ADD, rounds - first, 0, PUT, 0, 0, LOOP, 0, at + 4};
    }

    private static int[] join(int[]... parts) {
        int size = 0;
        for (int[] part : parts) size += part.length;
        int[] all = new int[size];
        int at = 0;
        for (int[] part : parts) {
            System.arraycopy(part, 0, all, at, part.length);
            at += part.length;
        }
        return all;
    }

    private static int[] lines(int... lines) {
        return lines;
    }

    /** What a GENERATOR of such a BODY tells as it is RESUMED once; it has the number 0. */
    private static YieldMoor tells(String what, int told, int... lines) {
        YieldMoor x = new YieldMoor();
        due(what + ": resume", x.resume(x.generator(write(x, lines)), 0), told);
        return x;
    }

    private static void stackIs(YieldMoor x, int coroutine, int... due) {
        due("how many are on the STACK", x.of(coroutine, 5), due.length);
        for (int place = 0; place < due.length; place++) due("place " + place, x.stack(coroutine, place), due[place]);
        throwsBounds("the place behind", () -> x.stack(coroutine, due.length));
    }

    private static void emptyAtFirst() {
        sentence("section 2", "A COROUTINE has a STACK (empty at first)");
        YieldMoor x = new YieldMoor();
        int inner = write(x, YIELD, 0, 0);
        int outer = write(x, TRY, 1, 12, FROM, inner, 0);
        int g = x.generator(outer);
        x.start(outer);
        stackIs(x, 0);
        stackIs(x, 1);
        x.resume(g, 0);
        stackIs(x, 0, -2);
        stackIs(x, 2);
    }

    private static void sixAreOnIt() {
        sentence("section 2", "At most 6 are on it");
        YieldMoor x = tells("6 BLOCKS", 5, TRY, 0, 12, TRY, 1, 12, TRY, 0, 12, TRY, 1, 12, TRY, 0, 12, TRY, 1, 12,
            ADD, 5, 0, YIELD, 0, 0);
        stackIs(x, 0, -1, -2, -1, -2, -1, -2);
    }

    private static void aSeventhTry() {
        sentence("section 2", "a TRY with 6 is THROWN 5 instead");
        for (int a = 0; a <= 1; a++) {
            YieldMoor x = tells("a 7th TRY at a CATCH", 5, TRY, 0, 12, TRY, 0, 12, TRY, 0, 12, TRY, 0, 12, TRY, 0, 12,
                TRY, 0, 8, TRY, a, 9, RETURN, 0, 0, YIELD, 0, 0);
            stackIs(x, 0, -1, -1, -1, -1, -1);
            due("LINES done, the 7th TRY too", x.of(0, 7), 8);
        }
        YieldMoor x = tells("a 7th TRY at a FINALLY", 3, TRY, 1, 12, TRY, 1, 12, TRY, 1, 12, TRY, 1, 12, TRY, 1, 12,
            TRY, 1, 9, ADD, 3, 0, TRY, 0, 9, RETURN, 0, 0, YIELD, 0, 0);
        stackIs(x, 0, -2, -2, -2, -2, -2, 5);
        x = tells("a TRY in the HANDLER of the 6th, then of the 5th", 0, TRY, 1, 6, TRY, 1, 6, TRY, 1, 6, TRY, 1, 6, TRY, 1, 6,
            TRY, 1, 6, TRY, 0, 12, YIELD, 0, 0);
        stackIs(x, 0, -2, -2, -2, -2, 5, -1);
        due("LINES done, the TRY thrice", x.of(0, 7), 10);
    }

    private static void waysCountToo() {
        sentence("section 2", "A COROUTINE has a STACK (empty at first) of BLOCKS, and of WAYS");
        YieldMoor x = tells("a WAY and 5 BLOCKS", 0, TRY, 1, 2, THROW, 1, 0, TRY, 0, 12, TRY, 0, 12, TRY, 0, 12,
            TRY, 0, 12, TRY, 0, 12, YIELD, 0, 0);
        stackIs(x, 0, 1, -1, -1, -1, -1, -1);
        x = tells("a WAY and 5 BLOCKS, and a TRY", 5, TRY, 1, 2, THROW, 1, 0, TRY, 0, 8, TRY, 0, 8, TRY, 0, 8,
            TRY, 0, 8, TRY, 0, 8, TRY, 0, 12, YIELD, 0, 0);
        stackIs(x, 0, 1, -1, -1, -1, -1);
        x = tells("3 WAYS", 9, TRY, 1, 2, RETURN, 0, 0, TRY, 1, 4, THROW, 7, 0, TRY, 1, 6, DONE, 0, 12, ADD, 9, 0,
            YIELD, 0, 0);
        stackIs(x, 0, -4, 7, -3);
    }

    private static void takenOffMakesRoom() {
        sentence("section 2", "At most 6 are on it: a TRY with 6 is THROWN 5 instead.");
        YieldMoor x = tells("a 7th TRY behind a DONE", 0, TRY, 0, 12, TRY, 0, 12, TRY, 0, 12, TRY, 0, 12, TRY, 0, 12,
            TRY, 0, 12, DONE, 0, 7, TRY, 1, 12, YIELD, 0, 0);
        stackIs(x, 0, -1, -1, -1, -1, -1, -2);
        x = tells("a 7th TRY behind a LAST", 0, TRY, 1, 12, TRY, 1, 12, TRY, 1, 12, TRY, 1, 12, TRY, 1, 12,
            TRY, 1, 7, DONE, 0, 8, LAST, 0, 0, TRY, 0, 12, YIELD, 0, 0);
        stackIs(x, 0, -2, -2, -2, -2, -2, -1);
    }

    private static void doneOfACatch() {
        sentence("section 2", "DONE: if a CATCH is the last one on the STACK, it is taken off, and it goes on with the "
            + "LINE b.");
        YieldMoor x = tells("DONE of one of 2", 1, TRY, 1, 12, TRY, 0, 12, DONE, 0, 4, ADD, 50, 0, ADD, 1, 0,
            YIELD, 0, 0);
        stackIs(x, 0, -2);
        x = tells("DONE of the only one", 1, TRY, 0, 12, DONE, 0, 3, ADD, 50, 0, ADD, 1, 0, YIELD, 0, 0);
        stackIs(x, 0);
        tells("it catches no more", OVER - 6, TRY, 0, 3, DONE, 0, 2, THROW, 6, 0, YIELD, 0, 0);
    }

    private static void doneOfAFinally() {
        sentence("section 2", "If a FINALLY is, a WAY is put in place of it, NORMAL to b, and it goes on with its HANDLER.");
        YieldMoor x = tells("DONE of a FINALLY", 2, TRY, 0, 12, TRY, 1, 4, DONE, 0, 6, ADD, 50, 0, ADD, 2, 0,
            YIELD, 0, 0, ADD, 20, 0, YIELD, 0, 0);
        stackIs(x, 0, -1, -3);
        x = tells("with 6 on the STACK", 2, TRY, 0, 12, TRY, 0, 12, TRY, 0, 12, TRY, 0, 12, TRY, 0, 12, TRY, 1, 8,
            DONE, 0, 12, ADD, 50, 0, ADD, 2, 0, YIELD, 0, 0);
        stackIs(x, 0, -1, -1, -1, -1, -1, -3);
        x = tells("a HANDLER behind b", 2, TRY, 1, 4, DONE, 0, 2, ADD, 50, 0, YIELD, 0, 0, ADD, 2, 0, YIELD, 0, 0);
        stackIs(x, 0, -3);
    }

    private static void doneOtherwise() {
        sentence("section 2", "Otherwise it goes on with the LINE b.");
        tells("DONE with an empty STACK", 1, DONE, 0, 2, ADD, 50, 0, ADD, 1, 0, YIELD, 0, 0);
        YieldMoor x = tells("DONE at a NORMAL WAY", 1, TRY, 1, 2, DONE, 0, 12, DONE, 0, 4, ADD, 50, 0, ADD, 1, 0,
            YIELD, 0, 0);
        stackIs(x, 0, -3);
        x = tells("DONE at a THROWN one", 1, TRY, 1, 2, THROW, 7, 0, DONE, 0, 4, ADD, 50, 0, ADD, 1, 0, YIELD, 0, 0);
        stackIs(x, 0, 7);
        x = tells("DONE at a RETURN", 1, TRY, 1, 2, RETURN, 0, 0, DONE, 0, 4, ADD, 50, 0, ADD, 1, 0, YIELD, 0, 0);
        stackIs(x, 0, -4);
        x = tells("DONE at a WAY with a CATCH below", 1, TRY, 0, 12, TRY, 1, 3, RETURN, 0, 0, DONE, 0, 5, ADD, 50, 0,
            ADD, 1, 0, YIELD, 0, 0);
        stackIs(x, 0, -1, -4);
    }

    private static void lastOfAWay() {
        sentence("section 2", "if it is NORMAL, it goes on with its LINE; if it is THROWN, that is THROWN again; if it is "
            + "a RETURN, that is done again (with what there was)");
        YieldMoor x = tells("LAST of a NORMAL one", 3, TRY, 0, 12, TRY, 1, 4, DONE, 0, 6, YIELD, 0, 0, LAST, 0, 0,
            ADD, 50, 0, ADD, 3, 0, YIELD, 0, 0);
        stackIs(x, 0, -1);
        for (int k = 1; k <= 7; k += 6) {
            x = tells("LAST of a THROWN one", OVER - k, TRY, 1, 2, THROW, k, 0, ADD, 50, 0, LAST, 0, 0, YIELD, 0, 0);
            stackIs(x, 0);
            x = tells("LAST of a THROWN one in a CATCH", k, TRY, 0, 5, TRY, 1, 3, THROW, k, 0, LAST, 0, 0, YIELD, 0, 0,
                YIELD, 0, 0);
            stackIs(x, 0);
        }
        x = tells("LAST of a RETURN", OVER, ADD, 4, 0, TRY, 1, 3, RETURN, 0, 0, ADD, 50, 0, LAST, 0, 0, YIELD, 0, 0);
        due("with what there was", x.of(0, 4), 4);
        x = tells("LAST of a RETURN where no LINE is", OVER, ADD, 4, 0, TRY, 1, 3, SKIP, 0, 5, ADD, 50, 0, SKIP, 0, 12,
            LAST, 0, 0);
        due("with what there was", x.of(0, 4), 54);
        x = tells("LAST of a RETURN in a FINALLY", 54, ADD, 4, 0, TRY, 1, 6, TRY, 1, 4, RETURN, 0, 0, ADD, 50, 0,
            LAST, 0, 0, YIELD, 0, 0, LAST, 0, 0);
        stackIs(x, 0, -4);
        due("LAST of it again", x.resume(0, 999), OVER);
        due("with what there was", x.of(0, 4), 4);
    }

    private static void lastOtherwise() {
        sentence("section 2", "LAST: if a WAY is the last one on the STACK, it is taken off: .. Otherwise it goes on.");
        tells("LAST with an empty STACK", 1, LAST, 0, 0, ADD, 1, 0, YIELD, 0, 0);
        YieldMoor x = tells("LAST at a CATCH", 1, TRY, 0, 12, LAST, 0, 0, ADD, 1, 0, YIELD, 0, 0);
        stackIs(x, 0, -1);
        x = tells("LAST at a FINALLY", 1, TRY, 1, 12, LAST, 0, 0, ADD, 1, 0, YIELD, 0, 0);
        stackIs(x, 0, -2);
        x = tells("LAST at a BLOCK with a WAY below", 1, TRY, 1, 2, THROW, 7, 0, TRY, 0, 12, LAST, 0, 0, ADD, 1, 0,
            YIELD, 0, 0);
        stackIs(x, 0, 7, -1);
    }

    private static void aWayIsLost() {
        sentence("section 2", "If it is a WAY, that is lost, and it goes on likewise.");
        tells("a THROW at a NORMAL one", OVER - 2, TRY, 1, 2, DONE, 0, 12, THROW, 2, 0, YIELD, 0, 0);
        tells("a THROW at a THROWN one", OVER - 2, TRY, 1, 2, THROW, 7, 0, THROW, 2, 0, YIELD, 0, 0);
        tells("a THROW at a RETURN", OVER - 2, TRY, 1, 2, RETURN, 0, 0, THROW, 2, 0, YIELD, 0, 0);
        YieldMoor x = tells("a RETURN at a THROWN one", OVER, ADD, 1, 0, TRY, 1, 3, THROW, 7, 0, ADD, 5, 0,
            RETURN, 0, 0);
        due("with what there was", x.of(0, 4), 6);
        x = tells("a RETURN at a RETURN", OVER, ADD, 1, 0, TRY, 1, 3, RETURN, 0, 0, ADD, 5, 0, RETURN, 0, 0);
        due("with what there was", x.of(0, 4), 6);
        x = tells("a THROW at 3 WAYS, with a CATCH below", 2, TRY, 0, 8, TRY, 1, 3, RETURN, 0, 0, TRY, 1, 5, THROW, 7, 0,
            TRY, 1, 7, DONE, 0, 12, THROW, 2, 0, YIELD, 0, 0);
        stackIs(x, 0);
        x = tells("a RETURN at a WAY, with a FINALLY below", 4, TRY, 1, 6, ADD, 4, 0, TRY, 1, 4, THROW, 7, 0,
            RETURN, 0, 0, YIELD, 0, 0, YIELD, 0, 0);
        stackIs(x, 0, -4);
    }

    private static void putInPlaceOfAFinally() {
        sentence("section 2", "If it is a FINALLY, a WAY with this k, or this RETURN, is put in place of it, and it goes "
            + "on with its HANDLER.");
        for (int k = 1; k <= 7; k += 6) {
            YieldMoor x = tells("THROW " + k, 3, ADD, 3, 0, TRY, 1, 4, THROW, k, 0, YIELD, 0, 0, YIELD, 0, 0);
            stackIs(x, 0, k);
            due("where it WAITS", x.of(0, 3), 4);
        }
        YieldMoor x = tells("RETURN", 3, ADD, 3, 0, TRY, 1, 4, RETURN, 0, 0, YIELD, 0, 0, YIELD, 0, 0);
        stackIs(x, 0, -4);
        x = tells("with 6 on the STACK", 0, TRY, 1, 12, TRY, 1, 12, TRY, 1, 12, TRY, 1, 12, TRY, 1, 12, TRY, 1, 8,
            RETURN, 0, 0, YIELD, 0, 0, YIELD, 0, 0);
        stackIs(x, 0, -2, -2, -2, -2, -2, -4);
        x = tells("the one below stays", 0, TRY, 1, 12, TRY, 1, 4, THROW, 6, 0, YIELD, 0, 0, YIELD, 0, 0);
        stackIs(x, 0, -2, 6);
    }

    private static void caughtFromOneToNine() {
        sentence("section 2", "If it is a CATCH, and k is 1 to 9, there is k then, and it goes on with its HANDLER");
        for (int k = 1; k <= 7; k++) {
            YieldMoor x = tells("THROW " + k, k, ADD, 50, 0, TRY, 1, 12, TRY, 0, 4, THROW, k, 0, YIELD, 0, 0);
            stackIs(x, 0, -2);
        }
        YieldMoor x = new YieldMoor();
        int inner = write(x, TRY, 1, 2, YIELD, 0, 0, YIELD, 0, 0);
        int g = x.generator(write(x, TRY, 0, 2, FROM, inner, 0, YIELD, 0, 0));
        x.resume(g, 0);
        due("8 is caught, and it YIELDS", x.close(g), 8);
        due("what there is", x.of(g, 4), 8);
        stackIs(x, g);
    }

    private static void nineIsCaught() {
        sentence("section 2", "and k is 1 to 9, there is k then .. 9 is CANCEL");
        YieldMoor x = new YieldMoor();
        int t = x.start(write(x, TRY, 0, 2, SLEEP, 9, 0, SLEEP, 9, 0));
        x.run(1);
        x.cancel(t);
        x.run(1);
        due("it goes on with its HANDLER", x.of(t, 3), 2);
        due("what there is", x.of(t, 4), 9);
        stackIs(x, t);
    }

    private static void tenAndElevenAreNotCaught() {
        sentence("section 2", "and k is 1 to 9, .. otherwise it goes on likewise. .. 10 is CLOSE, 11 is that it took too "
            + "long");
        YieldMoor x = new YieldMoor();
        int g = x.generator(write(x, TRY, 1, 3, TRY, 0, 4, YIELD, 0, 0, YIELD, 0, 0, YIELD, 0, 0));
        x.resume(g, 0);
        due("10 passes the CATCH", x.close(g), 8);
        due("it is in the HANDLER of the FINALLY", x.of(g, 3), 3);
        stackIs(x, g, 10);
        x = tells("11 passes the CATCH", 193, join(lines(TRY, 1, 8, TRY, 0, 7), spend(2, 198),
            lines(YIELD, 0, 0, YIELD, 0, 0)));
        due("it is in the HANDLER of the FINALLY", x.of(0, 3), 8);
        stackIs(x, 0, 11);
    }

    private static void aReturnIsNotCaught() {
        sentence("section 2", "To THROW k, or to RETURN: .. If it is a CATCH, and k is 1 to 9, .. otherwise it goes on "
            + "likewise.");
        YieldMoor x = tells("a RETURN at 2 CATCHES", OVER, ADD, 6, 0, TRY, 0, 4, TRY, 0, 4, RETURN, 0, 0, YIELD, 0, 0);
        due("with what there was", x.of(0, 4), 6);
        x = tells("with a FINALLY below", 6, ADD, 6, 0, TRY, 1, 5, TRY, 0, 4, RETURN, 0, 0, ADD, 50, 0, YIELD, 0, 0);
        stackIs(x, 0, -4);
    }

    private static void theStackIsEmpty() {
        sentence("section 2", "If the STACK is empty, the COROUTINE is OVER: RETURNED, with what there was; or FAILED, "
            + "with k.");
        YieldMoor x = tells("RETURN", OVER, ADD, -7, 0, RETURN, 0, 0);
        due("RETURNED", x.of(0, 1), 3);
        due("with what there was", x.of(0, 4), -7);
        for (int k = 1; k <= 7; k += 6) {
            x = tells("THROW " + k, OVER - k, ADD, 70, 0, THROW, k, 0);
            due("FAILED", x.of(0, 1), 4);
            due("with k", x.of(0, 4), k);
        }
    }

    /** A BODY of which 200 LINES are done till it has YIELDED, and so many behind that. */
    private static int twoHundredTwice(YieldMoor x, int second) {
        return write(x, join(spend(0, 199), lines(YIELD, 0, 0), spend(6, second)));
    }

    private static void countedAnewWithEachCall() {
        sentence("section 2", "LINES are counted anew with each call from outside");
        YieldMoor x = new YieldMoor();
        int g = x.generator(twoHundredTwice(x, 200));
        due("200 LINES", x.resume(g, 0), 194);
        due("200 LINES more", x.resume(g, 0), OVER);
        due("LINES done", x.of(g, 7), 400);
        int h = x.generator(twoHundredTwice(x, 201));
        x.resume(h, 0);
        due("201 LINES more", x.resume(h, 0), OVER - 11);
        int raised = x.generator(write(x, join(lines(TRY, 1, 3, YIELD, 0, 0, YIELD, 0, 0), spend(3, 200))));
        x.resume(raised, 0);
        due("200 LINES as it is THROWN into", x.raise(raised, 1), OVER);
        int closed = x.generator(write(x, join(lines(TRY, 1, 3, YIELD, 0, 0, YIELD, 0, 0), spend(3, 199),
            lines(LAST, 0, 0))));
        x.resume(closed, 0);
        due("200 LINES as it is CLOSED", x.close(closed), 0);
        due("the 200th was LAST", x.of(closed, 7), 202);
    }

    private static void countedAnewEachTurn() {
        sentence("section 2", "LINES are counted anew with each call from outside (each turn, section 4)");
        YieldMoor x = new YieldMoor();
        int body = twoHundredTwice(x, 200);
        x.start(body);
        x.start(body);
        due("all turns in one call", x.run(50), 4);
        due("RETURNED", x.many(6), 2);
        due("LINES done", x.many(10), 800);
        int more = twoHundredTwice(x, 201);
        x.start(more);
        due("201 in its second turn", x.run(50), 2);
        due("FAILED with", x.of(2, 4), 11);
        due("LINES done", x.of(2, 7), 400);
    }

    private static void countedAnewInWhatWouldBe() {
        sentence("section 2", "LINES are counted anew with each call from outside (each turn, section 4)");
        YieldMoor x = new YieldMoor();
        int g = x.generator(write(x, join(lines(ADD, 99, 0, PUT, 1, 0), spend(2, 190), lines(YIELD, 0, 0, LOOP, 1, 2))));
        due("each of what it would still give", x.left(g), 20);
        int t = x.start(twoHundredTwice(x, 200));
        due("each turn that would be", x.overIn(2), 1);
        due("each turn, as it would be CANCELLED", x.isOverBy(t, 2), true);
        due("what would be takes no LINE away", x.resume(g, 0), 185);
        x.run(2);
        due("nor in a turn", x.of(t, 1), 3);
        due("LINES done", x.of(t, 7), 400);
    }

    private static void inAllTogether() {
        sentence("section 2", "in all COROUTINES together");
        YieldMoor x = new YieldMoor();
        int inner = write(x, spend(0, 99));
        int exact = x.generator(write(x, join(spend(0, 100), lines(FROM, inner, 0))));
        due("200 LINES in 2 COROUTINES", x.resume(exact, 0), OVER);
        due("LINES done", x.many(10), 200);
        int beyond = x.generator(write(x, join(spend(0, 100), lines(FROM, inner, 0, ADD, 1, 0))));
        due("201 LINES in 2 COROUTINES", x.resume(beyond, 0), OVER - 11);
        due("the INNER one is RETURNED", x.of(3, 1), 3);
        due("LINES of the outer one", x.of(beyond, 7), 101);
    }

    private static void the201st() {
        sentence("section 2", "As the 201st would begin, 11 is THROWN there, once, instead of it (it does not count)");
        YieldMoor x = tells("200 LINES, then none", OVER, spend(0, 200));
        due("LINES done", x.of(0, 7), 200);
        x = tells("a YIELD as the 200th", 194, join(spend(0, 199), lines(YIELD, 0, 0)));
        x = tells("a RETURN as the 200th", OVER, join(spend(0, 199), lines(RETURN, 0, 0)));
        for (int[] line : new int[][] {{YIELD, 0, 0}, {RETURN, 0, 0}, {THROW, 3, 0}, {ADD, 1, 0}, {FROM, 0, 0}}) {
            x = tells("the KIND " + line[0] + " as the 201st", OVER - 11, join(spend(0, 200), line));
            due("LINES done", x.of(0, 7), 200);
            due("LINES done ever", x.many(10), 200);
            due("COROUTINES", x.many(1), 1);
        }
        x = tells("a PUT as the 201st", 77, join(lines(TRY, 1, 7), spend(1, 199), lines(PUT, 2, 0, GET, 1, 0),
            lines(ADD, 77, 0, YIELD, 0, 0)));
        due("it was not done", x.local(0, 2), 0);
        stackIs(x, 0, 11);
    }

    private static void the201stIsThrownOnce() {
        sentence("section 2", "As the 201st would begin, 11 is THROWN there, once");
        YieldMoor x = tells("a YIELD as the 300th", 94, join(lines(TRY, 1, 6), spend(1, 199), spend(6, 99),
            lines(YIELD, 0, 0)));
        due("LINES done", x.of(0, 7), 300);
        stackIs(x, 0, 11);
        x = tells("300 LINES, then none", OVER, join(lines(TRY, 1, 6), spend(1, 199), spend(6, 100)));
        due("LINES done", x.of(0, 7), 300);
        x = tells("a RETURN as the 300th", OVER, join(lines(TRY, 1, 6), spend(1, 199), spend(6, 99),
            lines(RETURN, 0, 0)));
        x = tells("a LAST as the 300th", OVER - 11, join(lines(TRY, 1, 6), spend(1, 199), spend(6, 99),
            lines(LAST, 0, 0)));
        due("LINES done", x.of(0, 7), 300);
        x = new YieldMoor();
        int g = x.generator(write(x, join(lines(TRY, 1, 6), spend(1, 199), lines(YIELD, 0, 0), spend(7, 200))));
        due("it YIELDS behind 11", x.resume(g, 0), 194);
        due("with the next call 200 LINES again", x.resume(g, 0), OVER);
    }

    private static void the201stIsThrownThere() {
        sentence("section 2", "As the 201st would begin, 11 is THROWN there");
        YieldMoor x = new YieldMoor();
        int inner = write(x, join(lines(TRY, 1, 7), spend(1, 99), lines(YIELD, 0, 0, YIELD, 0, 0)));
        int g = x.generator(write(x, join(lines(TRY, 1, 7), spend(1, 98), lines(FROM, inner, 0, YIELD, 0, 0))));
        due("in the INNER one", x.resume(g, 0), 94);
        stackIs(x, 1, 11);
        stackIs(x, g, -2);
        due("LINES of the INNER one", x.of(1, 7), 101);
        int over = write(x, join(lines(TRY, 1, 7), spend(1, 99)));
        int h = x.generator(write(x, join(lines(TRY, 1, 7), spend(1, 98), lines(FROM, over, 0, YIELD, 0, 0))));
        due("in the outer one, as the INNER one is OVER", x.resume(h, 0), 94);
        stackIs(x, h, 11);
        due("the INNER one is RETURNED", x.of(3, 1), 3);
    }

    private static void behind300() {
        sentence("section 2", "as a LINE would begin behind 300, its COROUTINE is FAILED with 11 at once, its STACK is "
            + "empty");
        int[][] lines = {{YIELD, 0, 0}, {RETURN, 0, 0}, {THROW, 3, 0}, {LAST, 0, 0}};
        for (int[] line : lines) {
            YieldMoor x = tells("the KIND " + line[0] + " as the 301st", OVER - 11, join(lines(TRY, 1, 6),
                spend(1, 199), spend(6, 100), line));
            due("LINES done", x.of(0, 7), 300);
            due("FAILED", x.of(0, 1), 4);
            due("with 11", x.of(0, 4), 11);
            stackIs(x, 0);
        }
        YieldMoor x = tells("no HANDLER any more, not even one where no LINE is", OVER - 11, join(
            lines(TRY, 1, 12, TRY, 1, 7), spend(2, 198), spend(7, 101)));
        stackIs(x, 0);
        due("LINES done", x.of(0, 7), 300);
    }

    private static void behind300InAnInnerOne() {
        sentence("section 2", "as a LINE would begin behind 300, its COROUTINE is FAILED with 11 at once");
        YieldMoor x = new YieldMoor();
        int inner = write(x, join(lines(TRY, 1, 6), spend(1, 197), spend(6, 102)));
        int g = x.generator(write(x, TRY, 1, 2, FROM, inner, 0, YIELD, 0, 0));
        due("no LINE of the outer one's HANDLER", x.resume(g, 0), OVER - 11);
        due("the INNER one is FAILED", x.of(1, 1), 4);
        due("LINES of the INNER one", x.of(1, 7), 298);
        due("LINES of the outer one", x.of(g, 7), 2);
        stackIs(x, g);
        int h = x.generator(write(x, TRY, 1, 12, FROM, inner, 0, YIELD, 0, 0));
        due("where no LINE is, none begins", x.resume(h, 0), OVER);
        due("it is the INNER one that is FAILED", x.of(3, 4), 11);
    }

    private static void tooLongAsItIsClosed() {
        sentence("section 2", "11 is that it took too long");
        YieldMoor x = new YieldMoor();
        int g = x.generator(write(x, join(lines(TRY, 1, 3, YIELD, 0, 0, YIELD, 0, 0), spend(3, 201))));
        x.resume(g, 0);
        due("it would be FAILED with 11", x.wouldClose(g), 11);
        due("as it is CLOSED", x.close(g), 11);
        due("FAILED", x.of(g, 1), 4);
        due("with 11", x.of(g, 4), 11);
        int inner = write(x, join(lines(TRY, 1, 3, YIELD, 0, 0, YIELD, 0, 0), spend(3, 100)));
        int outer = write(x, join(lines(TRY, 1, 3, FROM, inner, 0, YIELD, 0, 0), spend(3, 100)));
        int h = x.generator(outer);
        x.resume(h, 0);
        due("200 LINES in 2 that are CLOSED", x.close(h), 0);
        int more = x.generator(write(x, join(lines(TRY, 1, 3, FROM, inner, 0, YIELD, 0, 0), spend(3, 101))));
        x.resume(more, 0);
        due("201 LINES in 2 that are CLOSED", x.close(more), 11);
    }
}

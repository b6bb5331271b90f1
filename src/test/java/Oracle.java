import java.util.ArrayList;
import java.util.List;

/**
 * A second machine for coroutines, written apart from YieldMoor and in another way (by recursion, one COROUTINE
 * within the other). It answers what would be by doing all calls again on a fresh machine, so it copies no state.
 */
final class Oracle {
    private static final int NEW = 0, WAITING = 1, RETURNED = 3, FAILED = 4;

    private static final class Way {
        final String sort;
        final int mark;

        Way(String sort, int mark) {
            this.sort = sort;
            this.mark = mark;
        }
    }

    private static final class Co {
        int number, body, sort, state, pc, acc, lines;
        int[] locals = new int[4];
        List<Way> stack = new ArrayList<>();
        Co inner;
        int wakes = -1, shield, spawner = -1;
        boolean asked;
        Co awaits;

        boolean over() {
            return state == RETURNED || state == FAILED;
        }
    }

    private final List<List<int[]>> bodies = new ArrayList<>();
    private final List<Co> cos = new ArrayList<>();
    private final List<Co> ready = new ArrayList<>();
    private final List<Co> waiters = new ArrayList<>();
    private int now, turns, begun;
    private boolean eleven;
    private Co own;
    private final List<int[]> log = new ArrayList<>();

    private Oracle again() {
        Oracle o = new Oracle();
        for (int[] c : log) {
            switch (c[0]) {
                case 0: o.body(); break;
                case 1: o.line(c[1], c[2], c[3], c[4]); break;
                case 2: o.generator(c[1]); break;
                case 3: o.resume(c[1], c[2]); break;
                case 4: o.raise(c[1], c[2]); break;
                case 5: o.close(c[1]); break;
                case 6: o.start(c[1]); break;
                case 7: o.run(c[1]); break;
                case 8: o.tick(c[1]); break;
                default: o.cancel(c[1]); break;
            }
        }
        return o;
    }

    private void note(int... call) {
        log.add(call);
    }

    private static void bounds(boolean good) {
        if (!good) throw new IndexOutOfBoundsException();
    }

    private static void argument(boolean good) {
        if (!good) throw new IllegalArgumentException();
    }

    private static void state(boolean good) {
        if (!good) throw new IllegalStateException();
    }

    private boolean isBody(int n) {
        return 0 <= n && n < bodies.size();
    }

    private boolean isCo(int n) {
        return 0 <= n && n < cos.size();
    }

    private boolean isSort(int n, int sort) {
        return isCo(n) && cos.get(n).sort == sort;
    }

    // ---- bodies

    int body() {
        state(bodies.size() < 8);
        note(0);
        bodies.add(new ArrayList<>());
        return bodies.size() - 1;
    }

    private static boolean in(int v, int lo, int hi) {
        return lo <= v && v <= hi;
    }

    int line(int body, int kind, int a, int b) {
        bounds(isBody(body));
        argument(in(kind, 0, 15));
        List<int[]> rows = bodies.get(body);
        int own = rows.size();
        int lowA = 0, highA = 0, lowB = 0, highB = 0;
        if (kind == 0) { lowA = -99; highA = 99; }
        if (kind == 1 || kind == 2 || kind == 4) highA = 3;
        if (kind == 4) highB = own;
        if (kind == 5 || kind == 6 || kind == 7) { lowB = own + 1; highB = 12; }
        if (kind == 6 || kind == 15) highA = 1;
        if (kind == 9) { lowA = 1; highA = 7; }
        if (kind == 10 || kind == 14) highA = 7;
        if (kind == 12) { lowA = 1; highA = 9; }
        argument(in(a, lowA, highA) && in(b, lowB, highB));
        state(rows.size() < 12);
        for (Co c : cos) state(c.body != body);
        note(1, body, kind, a, b);
        rows.add(new int[] {kind, a, b});
        return own;
    }

    int ofBody(int body, int what) {
        bounds(isBody(body));
        argument(in(what, 0, 2));
        if (what == 0) return bodies.get(body).size();
        if (what == 1) {
            int n = 0;
            for (Co c : cos) if (c.body == body) n++;
            return n;
        }
        boolean[] seen = new boolean[14];
        walk(bodies.get(body), 0, seen);
        int n = 0;
        for (int i = 0; i < bodies.get(body).size(); i++) {
            int kind = bodies.get(body).get(i)[0];
            if (seen[i] && (kind == 3 || kind == 10 || kind == 12 || kind == 13)) n++;
        }
        return n;
    }

    private static void walk(List<int[]> rows, int n, boolean[] seen) {
        if (n >= rows.size() || seen[n]) return;
        seen[n] = true;
        int kind = rows.get(n)[0];
        if (in(kind, 4, 7)) walk(rows, rows.get(n)[2], seen);
        if (kind != 7 && kind != 9 && kind != 11) walk(rows, n + 1, seen);
    }

    // ---- going on

    private Co make(int body, int sort) {
        Co c = new Co();
        c.number = cos.size();
        c.body = body;
        c.sort = sort;
        cos.add(c);
        return c;
    }

    private void begin(Co task) {
        own = task;
        begun = 0;
        eleven = false;
    }

    private static void finish(Co c, int state, int with) {
        c.state = state;
        c.acc = with;
        c.stack.clear();
    }

    private static void toThrow(Co c, int k) {
        c.state = 2;
        while (!c.stack.isEmpty()) {
            Way w = c.stack.remove(c.stack.size() - 1);
            if (w.sort.equals("FINALLY")) {
                c.stack.add(new Way("THROWN", k));
                c.pc = w.mark;
                return;
            }
            if (w.sort.equals("CATCH") && k <= 9) {
                c.acc = k;
                c.pc = w.mark;
                return;
            }
        }
        finish(c, FAILED, k);
    }

    private static void toReturn(Co c, int with) {
        c.state = 2;
        while (!c.stack.isEmpty()) {
            Way w = c.stack.remove(c.stack.size() - 1);
            if (w.sort.equals("FINALLY")) {
                c.stack.add(new Way("RETURN", with));
                c.pc = w.mark;
                return;
            }
        }
        finish(c, RETURNED, with);
    }

    private void resumeCo(Co c, int value) {
        if (c.state == NEW) {
            c.state = 2;
            c.pc = 0;
        } else if (c.inner != null) {
            resumeCo(c.inner, value);
            if (!takeInner(c)) return;
        } else {
            c.acc = value;
            c.pc++;
            c.state = 2;
        }
        goOn(c);
    }

    private void throwCo(Co c, int k) {
        if (c.state == NEW) {
            finish(c, FAILED, k);
            return;
        }
        if (c.inner != null) {
            throwCo(c.inner, k);
            if (!takeInner(c)) return;
        } else {
            toThrow(c, k);
        }
        goOn(c);
    }

    /** At a turn: ends the wait of the inmost one as it is due. */
    private void turnCo(Co c) {
        if (c.state == NEW) {
            c.state = 2;
        } else if (c.inner != null) {
            turnCo(c.inner);
            if (!takeInner(c)) return;
        } else if (own.asked && own.shield == 0) {
            own.asked = false;
            toThrow(c, 9);
        } else if (bodies.get(c.body).get(c.pc)[0] == 13) {
            outcome(c, cos.get(c.acc));
        } else {
            c.acc = 0;
            c.pc++;
            c.state = 2;
        }
        goOn(c);
    }

    private int closeCo(Co c) {
        if (c.over()) return 0;
        if (c.state == NEW) {
            finish(c, RETURNED, 0);
            return 0;
        }
        int k = 10;
        if (c.inner != null) {
            int inner = closeCo(c.inner);
            if (inner != 0) k = inner;
            c.inner = null;
        }
        toThrow(c, k);
        goOn(c);
        if (c.state == WAITING) return 8;
        if (c.state == FAILED && c.acc == 10) finish(c, RETURNED, 0);
        return c.state == FAILED ? c.acc : 0;
    }

    /** Whether the outer one goes on. */
    private boolean takeInner(Co c) {
        Co i = c.inner;
        if (!i.over()) {
            c.state = WAITING;
            return false;
        }
        c.inner = null;
        if (i.state == RETURNED) {
            c.acc = i.acc;
            c.pc++;
            c.state = 2;
        } else {
            toThrow(c, i.acc);
        }
        return true;
    }

    private void outcome(Co c, Co other) {
        if (other.state == FAILED) {
            toThrow(c, other.acc >= 10 ? 9 : other.acc);
        } else {
            c.acc = other.acc;
            c.pc++;
            c.state = 2;
        }
    }

    private void goOn(Co c) {
        while (!c.over() && c.state != WAITING) {
            List<int[]> rows = bodies.get(c.body);
            if (c.pc >= rows.size()) {
                toReturn(c, c.acc);
            } else if (begun == 200 && !eleven) {
                eleven = true;
                toThrow(c, 11);
            } else if (begun == 300) {
                finish(c, FAILED, 11);
            } else {
                begun++;
                c.lines++;
                int[] row = rows.get(c.pc);
                perform(c, row[0], row[1], row[2]);
            }
        }
    }

    private Way last(Co c) {
        return c.stack.isEmpty() ? new Way("", 0) : c.stack.get(c.stack.size() - 1);
    }

    private void perform(Co c, int kind, int a, int b) {
        Way last = last(c);
        switch (kind) {
            case 0: c.acc += a; if (c.acc > 9999) c.acc = 9999; if (c.acc < -9999) c.acc = -9999; c.pc++; return;
            case 1: c.acc = c.locals[a]; c.pc++; return;
            case 2: c.locals[a] = c.acc; c.pc++; return;
            case 3: if (!heeds(c)) { c.state = WAITING; if (own != null) ready.add(own); } return;
            case 4: if (c.locals[a] > 0) { c.locals[a]--; c.pc = b; } else c.pc++; return;
            case 5: if (c.acc <= 0) c.pc = b; else c.pc++; return;
            case 6:
                if (c.stack.size() == 6) { toThrow(c, 5); return; }
                c.stack.add(new Way(a == 0 ? "CATCH" : "FINALLY", b));
                c.pc++;
                return;
            case 7:
                c.pc = b;
                if (last.sort.equals("CATCH")) c.stack.remove(c.stack.size() - 1);
                if (last.sort.equals("FINALLY")) {
                    c.stack.set(c.stack.size() - 1, new Way("NORMAL", b));
                    c.pc = last.mark;
                }
                return;
            case 8:
                if (last.sort.equals("NORMAL") || last.sort.equals("THROWN") || last.sort.equals("RETURN")) {
                    c.stack.remove(c.stack.size() - 1);
                    if (last.sort.equals("NORMAL")) c.pc = last.mark;
                    if (last.sort.equals("THROWN")) toThrow(c, last.mark);
                    if (last.sort.equals("RETURN")) toReturn(c, last.mark);
                } else {
                    c.pc++;
                }
                return;
            case 9: toThrow(c, a); return;
            case 10:
                if (!isBody(a) || cos.size() == 24) { toThrow(c, 4); return; }
                c.inner = make(a, 2);
                resumeCo(c.inner, 0);
                takeInner(c);
                return;
            case 11: toReturn(c, c.acc); return;
            case 12:
                if (own == null) toThrow(c, 3);
                else if (!heeds(c)) { c.state = WAITING; own.wakes = now + a; }
                return;
            case 13: await(c); return;
            case 14:
                if (own == null) { toThrow(c, 3); return; }
                if (!isBody(a) || cos.size() == 24) { toThrow(c, 4); return; }
                Co t = make(a, 1);
                t.spawner = own.number;
                ready.add(t);
                c.acc = t.number;
                c.pc++;
                return;
            default:
                if (own != null) own.shield = a == 1 ? own.shield + 1 : Math.max(0, own.shield - 1);
                c.pc++;
        }
    }

    private boolean heeds(Co c) {
        if (own == null || !own.asked || own.shield != 0) return false;
        own.asked = false;
        toThrow(c, 9);
        return true;
    }

    private void await(Co c) {
        if (own == null) { toThrow(c, 3); return; }
        if (!isSort(c.acc, 1) || cos.get(c.acc) == own) { toThrow(c, 6); return; }
        Co other = cos.get(c.acc);
        if (other.over()) { outcome(c, other); return; }
        for (Co o = other.awaits; o != null; o = o.awaits) {
            if (o == own) { toThrow(c, 2); return; }
        }
        if (heeds(c)) return;
        c.state = WAITING;
        own.awaits = other;
        waiters.add(own);
    }

    // ---- generators

    int generator(int body) {
        bounds(isBody(body));
        state(cos.size() < 24);
        note(2, body);
        return make(body, 0).number;
    }

    private int told(Co c) {
        if (c.state == RETURNED) return -20000;
        if (c.state == FAILED) return -20000 - c.acc;
        return c.inner == null ? c.acc : told(c.inner);
    }

    int resume(int g, int value) {
        bounds(isSort(g, 0));
        argument(in(value, -999, 999));
        state(!cos.get(g).over());
        note(3, g, value);
        begin(null);
        resumeCo(cos.get(g), value);
        return told(cos.get(g));
    }

    int raise(int g, int k) {
        bounds(isSort(g, 0));
        argument(in(k, 1, 7));
        state(!cos.get(g).over());
        note(4, g, k);
        begin(null);
        throwCo(cos.get(g), k);
        return told(cos.get(g));
    }

    int close(int g) {
        bounds(isSort(g, 0));
        note(5, g);
        begin(null);
        return closeCo(cos.get(g));
    }

    // ---- tasks

    int start(int body) {
        bounds(isBody(body));
        state(cos.size() < 24);
        note(6, body);
        Co t = make(body, 1);
        ready.add(t);
        return t.number;
    }

    int run(int most) {
        argument(in(most, 1, 50));
        note(7, most);
        int done = 0;
        for (; done < most && !ready.isEmpty(); done++) {
            Co t = ready.remove(0);
            turns++;
            begin(t);
            turnCo(t);
            if (!t.over()) continue;
            for (Co w : new ArrayList<>(waiters)) {
                if (w.awaits == t) {
                    waiters.remove(w);
                    w.awaits = null;
                    ready.add(w);
                }
            }
            if (t.state == FAILED) {
                for (Co c : cos) if (c.spawner == t.number && !c.over()) ask(c);
            }
        }
        return done;
    }

    private boolean ask(Co t) {
        if (t.over()) return false;
        boolean was = t.asked;
        t.asked = true;
        if (t.shield == 0 && (t.wakes >= 0 || t.awaits != null)) {
            t.wakes = -1;
            t.awaits = null;
            waiters.remove(t);
            ready.add(t);
        }
        return !was;
    }

    int tick(int ticks) {
        argument(in(ticks, 1, 20));
        note(8, ticks);
        int n = 0;
        for (int i = 0; i < ticks; i++) {
            now++;
            for (Co c : cos) {
                if (c.wakes == now) {
                    c.wakes = -1;
                    ready.add(c);
                    n++;
                }
            }
        }
        return n;
    }

    boolean cancel(int task) {
        bounds(isSort(task, 1));
        note(9, task);
        return ask(cos.get(task));
    }

    // ---- what one asks

    int of(int n, int what) {
        bounds(isCo(n));
        argument(in(what, 0, 7));
        Co c = cos.get(n);
        int waitsAt = c.state == WAITING ? c.pc : -1;
        int inner = c.inner == null ? -1 : c.inner.number;
        return new int[] {c.body, c.state, c.sort, waitsAt, c.acc, c.stack.size(), inner, c.lines}[what];
    }

    int local(int n, int local) {
        bounds(isCo(n) && in(local, 0, 3));
        return cos.get(n).locals[local];
    }

    int stack(int n, int place) {
        bounds(isCo(n) && in(place, 0, cos.get(n).stack.size() - 1));
        Way w = cos.get(n).stack.get(place);
        switch (w.sort) {
            case "CATCH": return -1;
            case "FINALLY": return -2;
            case "NORMAL": return -3;
            case "RETURN": return -4;
            default: return w.mark;
        }
    }

    int ofTask(int n, int what) {
        bounds(isSort(n, 1));
        argument(in(what, 0, 6));
        Co c = cos.get(n);
        int awaited = 0;
        for (Co o : cos) if (o.awaits == c) awaited++;
        return new int[] {ready.indexOf(c), c.wakes, c.awaits == null ? -1 : c.awaits.number, c.shield,
            c.asked ? 1 : 0, c.spawner, awaited}[what];
    }

    int many(int what) {
        argument(in(what, 0, 11));
        int[] sorts = new int[3], states = new int[5];
        int lines = 0;
        for (Co c : cos) {
            sorts[c.sort]++;
            states[c.state]++;
            lines += c.lines;
        }
        return new int[] {bodies.size(), cos.size(), sorts[0], sorts[1], states[0], states[1], states[3], states[4],
            ready.size(), now, lines, turns}[what];
    }

    double meanLines() {
        return cos.isEmpty() ? 0.0 : (double) many(10) / cos.size();
    }

    // ---- what would be

    int wouldGive(int g, int value) {
        bounds(isSort(g, 0) && !cos.get(g).over());
        argument(in(value, -999, 999));
        return again().resume(g, value);
    }

    int wouldClose(int g) {
        bounds(isSort(g, 0));
        return again().close(g);
    }

    int overIn(int most) {
        argument(in(most, 1, 50));
        Oracle o = again();
        o.run(most);
        int n = 0;
        for (Co c : o.cos) if (c.sort == 1 && c.over()) n++;
        return n;
    }

    boolean isOverBy(int task, int most) {
        bounds(isSort(task, 1));
        argument(in(most, 1, 50));
        Oracle o = again();
        o.cancel(task);
        o.run(most);
        return o.cos.get(task).over();
    }

    int left(int g) {
        bounds(isSort(g, 0));
        Oracle o = again();
        int n = 0;
        while (n < 20 && !o.cos.get(g).over()) {
            if (o.resume(g, 0) > -20000) n++;
        }
        return n;
    }

    long digest() {
        long d = 7603;
        for (int i = 0; i < 12; i++) d = d * 31 + many(i);
        for (int b = 0; b < bodies.size(); b++) for (int i = 0; i < 3; i++) d = d * 31 + ofBody(b, i);
        for (int n = 0; n < cos.size(); n++) {
            for (int i = 0; i < 8; i++) d = d * 31 + of(n, i);
            for (int i = 0; i < 4; i++) d = d * 31 + local(n, i);
            for (int i = 0; i < cos.get(n).stack.size(); i++) d = d * 31 + stack(n, i);
            if (isSort(n, 0)) d = (d * 31 + left(n)) * 31 + wouldClose(n);
            if (isSort(n, 1)) for (int i = 0; i < 7; i++) d = d * 31 + ofTask(n, i);
        }
        return d * 31 + overIn(20);
    }
}

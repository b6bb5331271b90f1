/** A machine for coroutines: bodies of lines, generators and tasks made of them, and what would become of these. */
public final class YieldMoor {
    private static final int NONE = -1;

    private static final int MOST_BODIES = 8;
    private static final int MOST_LINES = 12;
    private static final int MOST_COROUTINES = 24;
    private static final int MOST_ON_STACK = 6;
    private static final int LOCALS = 4;
    private static final int MOST_THERE = 9999;
    private static final int MOST_GIVEN = 999;
    private static final int MOST_RAISED = 7;
    private static final int MOST_TURNS = 50;
    private static final int MOST_TICKS = 20;
    private static final int MOST_LEFT = 20;
    private static final int LINES_BEFORE_THROW = 200;
    private static final int LINES_BEFORE_END = 300;
    /** Far above the 300 LINES, and the returns and ends between them, that one call can come to. */
    private static final int MOST_STEPS = 1000000;
    private static final int TOLD_AS_OVER = -20000;

    private static final int ADD = 0;
    private static final int GET = 1;
    private static final int PUT = 2;
    private static final int YIELD = 3;
    private static final int LOOP = 4;
    private static final int SKIP = 5;
    private static final int TRY = 6;
    private static final int DONE = 7;
    private static final int LAST = 8;
    private static final int THROW = 9;
    private static final int FROM = 10;
    private static final int RETURN = 11;
    private static final int SLEEP = 12;
    private static final int AWAIT = 13;
    private static final int SPAWN = 14;
    private static final int SHIELD = 15;

    private static final int NEW = 0;
    private static final int WAITING = 1;
    private static final int RUNNING = 2;
    private static final int RETURNED = 3;
    private static final int FAILED = 4;

    private static final int GENERATOR = 0;
    private static final int TASK = 1;
    private static final int INNER = 2;

    /** What stands on a STACK is told by these; a THROWN WAY is told by its k, which is above 0. */
    private static final int CATCH = -1;
    private static final int FINALLY = -2;
    private static final int NORMAL = -3;
    private static final int RETURNING = -4;

    private static final int NOTHING = 0;
    private static final int CIRCLE = 2;
    private static final int NO_TASK_HERE = 3;
    private static final int CAN_NOT_MAKE = 4;
    private static final int STACK_FULL = 5;
    private static final int NO_SUCH_TASK = 6;
    private static final int FAULT = 8;
    private static final int CANCEL = 9;
    private static final int CLOSE = 10;
    private static final int TOO_LONG = 11;

    private final Bodies bodies;
    private final Machine machine;
    /** What would be is tried out in this one, made once, so that no question makes anything. */
    private final Machine trial;

    public YieldMoor() {
        bodies = new Bodies();
        machine = new Machine(bodies);
        trial = new Machine(bodies);
    }

    // ---- bodies

    public int body() throws IllegalStateException {
        if (bodies.count >= MOST_BODIES) {
            throw new IllegalStateException("there are 8 bodies");
        }
        return bodies.addBody();
    }

    public int line(int body, int kind, int a, int b)
            throws IndexOutOfBoundsException, IllegalArgumentException, IllegalStateException {
        if (!bodies.has(body)) {
            throw new IndexOutOfBoundsException("no such body");
        }
        Body written = bodies.at(body);
        if (!written.fits(kind, a, b)) {
            throw new IllegalArgumentException("kind, a or b is not as it must be");
        }
        if (written.size >= MOST_LINES || machine.howManyMadeOf(body) > 0) {
            throw new IllegalStateException("the body is full or in use");
        }
        return written.addLine(kind, a, b);
    }

    public int ofBody(int body, int what) throws IndexOutOfBoundsException, IllegalArgumentException {
        if (!bodies.has(body)) {
            throw new IndexOutOfBoundsException("no such body");
        }
        switch (what) {
            case 0:
                return bodies.at(body).size;
            case 1:
                return machine.howManyMadeOf(body);
            case 2:
                return bodies.at(body).howManyWaits();
            default:
                throw new IllegalArgumentException("what is not 0 to 2");
        }
    }

    // ---- generators

    public int generator(int body) throws IndexOutOfBoundsException, IllegalStateException {
        if (!bodies.has(body)) {
            throw new IndexOutOfBoundsException("no such body");
        }
        if (machine.isFull()) {
            throw new IllegalStateException("there are 24 coroutines");
        }
        return machine.make(body, GENERATOR, NONE).number;
    }

    public int resume(int generator, int value)
            throws IndexOutOfBoundsException, IllegalArgumentException, IllegalStateException {
        if (!machine.has(generator, GENERATOR)) {
            throw new IndexOutOfBoundsException("no such generator");
        }
        if (!within(value, -MOST_GIVEN, MOST_GIVEN)) {
            throw new IllegalArgumentException("value is not -999 to 999");
        }
        if (machine.at(generator).isOver()) {
            throw new IllegalStateException("the generator is over");
        }
        return machine.resumeWith(generator, value);
    }

    public int raise(int generator, int k)
            throws IndexOutOfBoundsException, IllegalArgumentException, IllegalStateException {
        if (!machine.has(generator, GENERATOR)) {
            throw new IndexOutOfBoundsException("no such generator");
        }
        if (!within(k, 1, MOST_RAISED)) {
            throw new IllegalArgumentException("k is not 1 to 7");
        }
        if (machine.at(generator).isOver()) {
            throw new IllegalStateException("the generator is over");
        }
        return machine.throwInto(generator, k);
    }

    public int close(int generator) throws IndexOutOfBoundsException {
        if (!machine.has(generator, GENERATOR)) {
            throw new IndexOutOfBoundsException("no such generator");
        }
        return machine.closeAll(generator);
    }

    // ---- tasks

    public int start(int body) throws IndexOutOfBoundsException, IllegalStateException {
        if (!bodies.has(body)) {
            throw new IndexOutOfBoundsException("no such body");
        }
        if (machine.isFull()) {
            throw new IllegalStateException("there are 24 coroutines");
        }
        return machine.make(body, TASK, NONE).number;
    }

    public int run(int turns) throws IllegalArgumentException {
        if (!within(turns, 1, MOST_TURNS)) {
            throw new IllegalArgumentException("turns is not 1 to 50");
        }
        return machine.doTurns(turns);
    }

    public int tick(int ticks) throws IllegalArgumentException {
        if (!within(ticks, 1, MOST_TICKS)) {
            throw new IllegalArgumentException("ticks is not 1 to 20");
        }
        int woken = 0;
        for (int i = 0; i < ticks; i++) {
            woken += machine.oneTick();
        }
        return woken;
    }

    public boolean cancel(int task) throws IndexOutOfBoundsException {
        if (!machine.has(task, TASK)) {
            throw new IndexOutOfBoundsException("no such task");
        }
        return machine.askToCancel(task);
    }

    // ---- what one asks

    public int of(int coroutine, int what) throws IndexOutOfBoundsException, IllegalArgumentException {
        if (!machine.isMade(coroutine)) {
            throw new IndexOutOfBoundsException("no such coroutine");
        }
        Coroutine asked = machine.at(coroutine);
        switch (what) {
            case 0:
                return asked.body;
            case 1:
                return asked.state;
            case 2:
                return asked.sort;
            case 3:
                return asked.state == WAITING ? asked.line : NONE;
            case 4:
                return asked.there;
            case 5:
                return asked.stack.size;
            case 6:
                return asked.inner;
            case 7:
                return asked.linesDone;
            default:
                throw new IllegalArgumentException("what is not 0 to 7");
        }
    }

    public int local(int coroutine, int local) throws IndexOutOfBoundsException {
        if (!machine.isMade(coroutine) || !within(local, 0, LOCALS - 1)) {
            throw new IndexOutOfBoundsException("no such coroutine or local");
        }
        return machine.at(coroutine).localAt(local);
    }

    public int stack(int coroutine, int place) throws IndexOutOfBoundsException {
        if (!machine.isMade(coroutine) || !machine.at(coroutine).stack.has(place)) {
            throw new IndexOutOfBoundsException("no such coroutine or place");
        }
        return machine.at(coroutine).stack.signAt(place);
    }

    public int ofTask(int task, int what) throws IndexOutOfBoundsException, IllegalArgumentException {
        if (!machine.has(task, TASK)) {
            throw new IndexOutOfBoundsException("no such task");
        }
        Coroutine asked = machine.at(task);
        switch (what) {
            case 0:
                return machine.ready.placeOf(task);
            case 1:
                return asked.wakesAt;
            case 2:
                return asked.awaits;
            case 3:
                return asked.shield;
            case 4:
                return asked.isAsked ? 1 : 0;
            case 5:
                return asked.spawner;
            case 6:
                return machine.howManyAwait(task);
            default:
                throw new IllegalArgumentException("what is not 0 to 6");
        }
    }

    public int many(int what) throws IllegalArgumentException {
        switch (what) {
            case 0:
                return bodies.count;
            case 1:
                return machine.count;
            case 2:
                return machine.howManyOfSort(GENERATOR);
            case 3:
                return machine.howManyOfSort(TASK);
            case 4:
                return machine.howManyInState(NEW);
            case 5:
                return machine.howManyInState(WAITING);
            case 6:
                return machine.howManyInState(RETURNED);
            case 7:
                return machine.howManyInState(FAILED);
            case 8:
                return machine.ready.size;
            case 9:
                return machine.now;
            case 10:
                return machine.linesDoneInAll();
            case 11:
                return machine.turns;
            default:
                throw new IllegalArgumentException("what is not 0 to 11");
        }
    }

    public double meanLines() {
        if (machine.count <= 0) {
            return 0;
        }
        return (double) machine.linesDoneInAll() / machine.count;
    }

    // ---- what would be (nothing is changed)

    public int wouldGive(int generator, int value) throws IndexOutOfBoundsException, IllegalArgumentException {
        if (!machine.has(generator, GENERATOR) || machine.at(generator).isOver()) {
            throw new IndexOutOfBoundsException("no such generator that is not over");
        }
        if (!within(value, -MOST_GIVEN, MOST_GIVEN)) {
            throw new IllegalArgumentException("value is not -999 to 999");
        }
        trial.copyFrom(machine);
        return trial.resumeWith(generator, value);
    }

    public int wouldClose(int generator) throws IndexOutOfBoundsException {
        if (!machine.has(generator, GENERATOR)) {
            throw new IndexOutOfBoundsException("no such generator");
        }
        if (machine.at(generator).state != WAITING) {
            return 0;
        }
        trial.copyFrom(machine);
        return trial.closeAll(generator);
    }

    public int overIn(int turns) throws IllegalArgumentException {
        if (!within(turns, 1, MOST_TURNS)) {
            throw new IllegalArgumentException("turns is not 1 to 50");
        }
        trial.copyFrom(machine);
        trial.doTurns(turns);
        return trial.howManyTasksOver();
    }

    public boolean isOverBy(int task, int turns) throws IndexOutOfBoundsException, IllegalArgumentException {
        if (!machine.has(task, TASK)) {
            throw new IndexOutOfBoundsException("no such task");
        }
        if (!within(turns, 1, MOST_TURNS)) {
            throw new IllegalArgumentException("turns is not 1 to 50");
        }
        trial.copyFrom(machine);
        trial.askToCancel(task);
        trial.doTurns(turns);
        return trial.at(task).isOver();
    }

    public int left(int generator) throws IndexOutOfBoundsException {
        if (!machine.has(generator, GENERATOR)) {
            throw new IndexOutOfBoundsException("no such generator");
        }
        if (machine.at(generator).isOver()) {
            return 0;
        }
        trial.copyFrom(machine);
        for (int given = 0; given < MOST_LEFT; given++) {
            trial.resumeWith(generator, 0);
            if (trial.at(generator).isOver()) {
                return given;
            }
        }
        return MOST_LEFT;
    }

    public long digest() {
        long d = 7603;
        for (int what = 0; what <= 11; what++) {
            d = d * 31 + many(what);
        }
        for (int body = 0; body < bodies.count; body++) {
            for (int what = 0; what <= 2; what++) {
                d = d * 31 + ofBody(body, what);
            }
        }
        for (int n = 0; n < machine.count; n++) {
            for (int what = 0; what <= 7; what++) {
                d = d * 31 + of(n, what);
            }
            for (int local = 0; local < LOCALS; local++) {
                d = d * 31 + local(n, local);
            }
            for (int place = 0; place < machine.at(n).stack.size; place++) {
                d = d * 31 + stack(n, place);
            }
            if (machine.has(n, GENERATOR)) {
                d = d * 31 + left(n);
                d = d * 31 + wouldClose(n);
            }
            if (machine.has(n, TASK)) {
                for (int what = 0; what <= 6; what++) {
                    d = d * 31 + ofTask(n, what);
                }
            }
        }
        return d * 31 + overIn(20);
    }

    private static boolean within(int number, int low, int high) {
        return number >= low && number <= high;
    }

    /** The LINES of one BODY. */
    private static final class Body {
        private final int[] kinds = new int[MOST_LINES];
        private final int[] firsts = new int[MOST_LINES];
        private final int[] seconds = new int[MOST_LINES];
        private int size;

        boolean hasLine(int n) {
            return n >= 0 && n < size;
        }

        int kindAt(int n) {
            return hasLine(n) ? kinds[n] : RETURN;
        }

        int aAt(int n) {
            return hasLine(n) ? firsts[n] : 0;
        }

        int bAt(int n) {
            return hasLine(n) ? seconds[n] : 0;
        }

        /** Whether such a LINE could be the next one; its own number would be the size. */
        boolean fits(int kind, int a, int b) {
            switch (kind) {
                case ADD:
                    return within(a, -99, 99) && b == 0;
                case GET:
                case PUT:
                    return within(a, 0, LOCALS - 1) && b == 0;
                case LOOP:
                    return within(a, 0, LOCALS - 1) && within(b, 0, size);
                case SKIP:
                case DONE:
                    return a == 0 && within(b, size + 1, MOST_LINES);
                case TRY:
                    return within(a, 0, 1) && within(b, size + 1, MOST_LINES);
                case THROW:
                    return within(a, 1, 7) && b == 0;
                case FROM:
                case SPAWN:
                    return within(a, 0, MOST_BODIES - 1) && b == 0;
                case SLEEP:
                    return within(a, 1, 9) && b == 0;
                case SHIELD:
                    return within(a, 0, 1) && b == 0;
                case YIELD:
                case LAST:
                case RETURN:
                case AWAIT:
                    return a == 0 && b == 0;
                default:
                    return false;
            }
        }

        int addLine(int kind, int a, int b) {
            int n = size;
            if (n < MOST_LINES) {
                kinds[n] = kind;
                firsts[n] = a;
                seconds[n] = b;
                size = n + 1;
            }
            return n;
        }

        /** At how many LINES it can come to a wait. A set of LINES is a number with the bit n for the LINE n. */
        int howManyWaits() {
            int reached = 1;
            for (int round = 0; round < MOST_LINES; round++) {
                for (int n = 0; n < size; n++) {
                    if ((reached >> n & 1) != 0) {
                        reached |= nextOf(n);
                    }
                }
            }
            int waits = 0;
            for (int n = 0; n < size; n++) {
                if ((reached >> n & 1) != 0 && isWait(kindAt(n))) {
                    waits++;
                }
            }
            return waits;
        }

        private int nextOf(int n) {
            int behind = 1 << (n + 1);
            switch (kindAt(n)) {
                case LOOP:
                case SKIP:
                case TRY:
                    return behind | 1 << bAt(n);
                case DONE:
                    return 1 << bAt(n);
                case THROW:
                case RETURN:
                    return 0;
                default:
                    return behind;
            }
        }

        private static boolean isWait(int kind) {
            return kind == YIELD || kind == FROM || kind == SLEEP || kind == AWAIT;
        }
    }

    /** The BODIES; those that were not added yet are made ahead. */
    private static final class Bodies {
        private final Body[] rows = new Body[MOST_BODIES];
        private final Body empty = new Body();
        private int count;

        Bodies() {
            for (int n = 0; n < MOST_BODIES; n++) {
                rows[n] = new Body();
            }
        }

        boolean has(int n) {
            return n >= 0 && n < count;
        }

        Body at(int n) {
            return n >= 0 && n < MOST_BODIES ? rows[n] : empty;
        }

        int addBody() {
            int n = count;
            count = n + 1;
            return n;
        }
    }

    /** A STACK of BLOCKS and WAYS: each has a sign, and a mark (a LINE, or with what it RETURNS). */
    private static final class WayStack {
        private final int[] signs = new int[MOST_ON_STACK];
        private final int[] marks = new int[MOST_ON_STACK];
        private int size;

        boolean has(int place) {
            return place >= 0 && place < size;
        }

        boolean isFull() {
            return size >= MOST_ON_STACK;
        }

        int signAt(int place) {
            return has(place) ? signs[place] : NOTHING;
        }

        int lastSign() {
            return size > 0 && size <= MOST_ON_STACK ? signs[size - 1] : NOTHING;
        }

        int lastMark() {
            return size > 0 && size <= MOST_ON_STACK ? marks[size - 1] : 0;
        }

        void put(int sign, int mark) {
            if (size >= 0 && size < MOST_ON_STACK) {
                signs[size] = sign;
                marks[size] = mark;
                size++;
            }
        }

        void takeOff() {
            if (size > 0) {
                size--;
            }
        }

        void copyFrom(WayStack other) {
            System.arraycopy(other.signs, 0, signs, 0, MOST_ON_STACK);
            System.arraycopy(other.marks, 0, marks, 0, MOST_ON_STACK);
            size = other.size;
        }
    }

    /** Numbers of TASKS in their order; each stands in it once at most, so it is never too short. */
    private static final class Queue {
        private final int[] numbers = new int[MOST_COROUTINES];
        private int size;

        int numberAt(int place) {
            return place >= 0 && place < size ? numbers[place] : NONE;
        }

        int placeOf(int number) {
            for (int place = 0; place < size; place++) {
                if (numberAt(place) == number) {
                    return place;
                }
            }
            return NONE;
        }

        void add(int number) {
            if (size >= 0 && size < MOST_COROUTINES) {
                numbers[size] = number;
                size++;
            }
        }

        void removeAt(int place) {
            if (place < 0 || place >= size) {
                return;
            }
            for (int i = place + 1; i < size; i++) {
                numbers[i - 1] = numbers[i];
            }
            size--;
        }

        void copyFrom(Queue other) {
            System.arraycopy(other.numbers, 0, numbers, 0, MOST_COROUTINES);
            size = other.size;
        }
    }

    /** One COROUTINE, and what it does by itself alone. */
    private static final class Coroutine {
        private final int number;
        private final int[] locals = new int[LOCALS];
        private final WayStack stack = new WayStack();
        private int body;
        private int sort;
        private int state;
        /** Where it goes on; as it is WAITING, the LINE at which it does. */
        private int line;
        /** What there is; with what it was RETURNED, or FAILED, as it is OVER. */
        private int there;
        /** With what it RETURNS; of use till it goes on with a HANDLER or is OVER, so no trial needs a copy of it. */
        private int returns;
        private int inner;
        private int outer;
        private int linesDone;
        private int wakesAt;
        private int awaits;
        private int shield;
        private boolean isAsked;
        private int spawner;

        Coroutine(int number) {
            this.number = number;
        }

        /** The same objects serve for each trial, so all of an earlier one is wiped out. */
        void becomeNew(int ofBody, int ofSort, int ofSpawner) {
            for (int i = 0; i < LOCALS; i++) {
                locals[i] = 0;
            }
            stack.size = 0;
            body = ofBody;
            sort = ofSort;
            state = NEW;
            line = 0;
            there = 0;
            inner = NONE;
            outer = NONE;
            linesDone = 0;
            wakesAt = NONE;
            awaits = NONE;
            shield = 0;
            isAsked = false;
            spawner = ofSpawner;
        }

        void copyFrom(Coroutine other) {
            System.arraycopy(other.locals, 0, locals, 0, LOCALS);
            stack.copyFrom(other.stack);
            body = other.body;
            sort = other.sort;
            state = other.state;
            line = other.line;
            there = other.there;
            inner = other.inner;
            outer = other.outer;
            linesDone = other.linesDone;
            wakesAt = other.wakesAt;
            awaits = other.awaits;
            shield = other.shield;
            isAsked = other.isAsked;
            spawner = other.spawner;
        }

        boolean isOver() {
            return state == RETURNED || state == FAILED;
        }

        int localAt(int local) {
            return local >= 0 && local < LOCALS ? locals[local] : 0;
        }

        private void setLocal(int local, int value) {
            if (local >= 0 && local < LOCALS) {
                locals[local] = value;
            }
        }

        void goOnAt(int next) {
            state = RUNNING;
            line = next;
        }

        void end(int as, int with) {
            state = as;
            there = with;
        }

        /** Begins a RETURN with what there is; answers the way by which it leaves. */
        int beginReturn() {
            returns = there;
            return RETURNING;
        }

        /** THROWS, if the way is a k, or RETURNS with what it returns, if it is RETURNING. */
        void leave(int way) {
            for (int rest = stack.size; rest > 0; rest--) {
                int sign = stack.lastSign();
                int handler = stack.lastMark();
                stack.takeOff();
                if (sign == FINALLY) {
                    stack.put(way, returns);
                    goOnAt(handler);
                    return;
                }
                if (sign == CATCH && within(way, 1, CANCEL)) {
                    there = way;
                    goOnAt(handler);
                    return;
                }
            }
            if (way == RETURNING) {
                end(RETURNED, returns);
            } else {
                end(FAILED, way);
            }
        }

        /** Does a LINE that needs no other COROUTINE; answers the way by which it leaves, or NOTHING. */
        int doPlain(int kind, int a, int b) {
            int next = line + 1;
            switch (kind) {
                case ADD:
                    there = Math.max(-MOST_THERE, Math.min(MOST_THERE, there + a));
                    break;
                case GET:
                    there = localAt(a);
                    break;
                case PUT:
                    setLocal(a, there);
                    break;
                case LOOP:
                    if (localAt(a) > 0) {
                        setLocal(a, localAt(a) - 1);
                        next = b;
                    }
                    break;
                case SKIP:
                    next = there <= 0 ? b : next;
                    break;
                case TRY:
                    if (stack.isFull()) {
                        return STACK_FULL;
                    }
                    stack.put(a == 0 ? CATCH : FINALLY, b);
                    break;
                case DONE:
                    next = doDone(b);
                    break;
                case LAST:
                    return doLast();
                case THROW:
                    return a;
                case RETURN:
                    return beginReturn();
                default:
                    break;
            }
            line = next;
            return NOTHING;
        }

        /** Answers the LINE with which it goes on. */
        private int doDone(int b) {
            int sign = stack.lastSign();
            if (sign != CATCH && sign != FINALLY) {
                return b;
            }
            int handler = stack.lastMark();
            stack.takeOff();
            if (sign == CATCH) {
                return b;
            }
            stack.put(NORMAL, b);
            return handler;
        }

        /** A RETURN bears its value along; what there is stays what it is. */
        private int doLast() {
            int sign = stack.lastSign();
            if (sign == NOTHING || sign == CATCH || sign == FINALLY) {
                line++;
                return NOTHING;
            }
            int mark = stack.lastMark();
            stack.takeOff();
            if (sign == NORMAL) {
                line = mark;
                return NOTHING;
            }
            returns = mark;
            return sign;
        }
    }

    /** All COROUTINES, and what goes on between them. */
    private static final class Machine {
        private final Bodies bodies;
        private final Coroutine[] made = new Coroutine[MOST_COROUTINES];
        private final Coroutine nobody = new Coroutine(NONE);
        private final Queue ready = new Queue();
        /** The TASKS that AWAIT one, in the order in which they began to. */
        private final Queue awaiting = new Queue();
        private int count;
        private int now;
        private int turns;

        // The call from outside, or the turn, that is being done; nothing of it is needed behind it.
        private Coroutine running;
        private int turnOf;
        private int linesBegun;
        private boolean tookTooLong;
        private boolean waits;

        Machine(Bodies bodies) {
            this.bodies = bodies;
            for (int n = 0; n < MOST_COROUTINES; n++) {
                made[n] = new Coroutine(n);
            }
            running = nobody;
        }

        void copyFrom(Machine other) {
            count = other.count;
            now = other.now;
            turns = other.turns;
            ready.copyFrom(other.ready);
            awaiting.copyFrom(other.awaiting);
            for (int n = 0; n < count; n++) {
                at(n).copyFrom(other.at(n));
            }
        }

        boolean isMade(int n) {
            return n >= 0 && n < count;
        }

        boolean has(int n, int sort) {
            return n >= 0 && n < count && at(n).sort == sort;
        }

        Coroutine at(int n) {
            return n >= 0 && n < MOST_COROUTINES ? made[n] : nobody;
        }

        boolean isFull() {
            return count >= MOST_COROUTINES;
        }

        int howManyMadeOf(int body) {
            int many = 0;
            for (int n = 0; n < count; n++) {
                many += at(n).body == body ? 1 : 0;
            }
            return many;
        }

        int howManyOfSort(int sort) {
            int many = 0;
            for (int n = 0; n < count; n++) {
                many += at(n).sort == sort ? 1 : 0;
            }
            return many;
        }

        int howManyInState(int state) {
            int many = 0;
            for (int n = 0; n < count; n++) {
                many += at(n).state == state ? 1 : 0;
            }
            return many;
        }

        int howManyTasksOver() {
            int many = 0;
            for (int n = 0; n < count; n++) {
                many += at(n).sort == TASK && at(n).isOver() ? 1 : 0;
            }
            return many;
        }

        int howManyAwait(int task) {
            int many = 0;
            for (int place = 0; place < awaiting.size; place++) {
                many += at(awaiting.numberAt(place)).awaits == task ? 1 : 0;
            }
            return many;
        }

        int linesDoneInAll() {
            int lines = 0;
            for (int n = 0; n < count; n++) {
                lines += at(n).linesDone;
            }
            return lines;
        }

        // ---- making

        private boolean canMake(int body) {
            return bodies.has(body) && !isFull();
        }

        Coroutine make(int body, int sort, int spawner) {
            Coroutine one = at(count);
            one.becomeNew(body, sort, spawner);
            count++;
            if (sort == TASK) {
                ready.add(one.number);
            }
            return one;
        }

        // ---- generators

        int resumeWith(int generator, int value) {
            Coroutine top = at(generator);
            Coroutine deep = inmostOf(top);
            beginCall(NONE);
            if (deep.state == NEW) {
                deep.goOnAt(0);
            } else {
                deep.there = value;
                deep.goOnAt(deep.line + 1);
            }
            goOn(top, deep);
            return toldOf(top);
        }

        int throwInto(int generator, int k) {
            Coroutine top = at(generator);
            Coroutine deep = inmostOf(top);
            beginCall(NONE);
            deep.leave(k);
            goOn(top, deep);
            return toldOf(top);
        }

        private int toldOf(Coroutine top) {
            if (top.state == RETURNED) {
                return TOLD_AS_OVER;
            }
            return top.state == FAILED ? TOLD_AS_OVER - top.there : inmostOf(top).there;
        }

        /** CLOSES it and all that is INNER to it, from the inmost one to the outside. */
        int closeAll(int generator) {
            Coroutine top = at(generator);
            if (top.isOver()) {
                return 0;
            }
            if (top.state == NEW) {
                top.end(RETURNED, 0);
                return 0;
            }
            beginCall(NONE);
            Coroutine one = inmostOf(top);
            one.leave(CLOSE);
            goOn(one, one);
            int told = endClose(one);
            for (int level = 0; level < MOST_COROUTINES && one != top; level++) {
                Coroutine outer = at(one.outer);
                part(outer, one);
                outer.leave(told == 0 ? CLOSE : told);
                goOn(outer, outer);
                told = endClose(outer);
                one = outer;
            }
            return told;
        }

        /** Answers 0 if it is RETURNED, k if it is FAILED, the FAULT if it WAITS. */
        private int endClose(Coroutine one) {
            if (one.state == FAILED && one.there == CLOSE) {
                one.end(RETURNED, 0);
            }
            if (one.state == RETURNED) {
                return 0;
            }
            return one.state == FAILED ? one.there : FAULT;
        }

        // ---- tasks

        /** Does so many turns at most; answers how many. */
        int doTurns(int most) {
            int done = 0;
            while (done < most && ready.size > 0) {
                Coroutine task = at(ready.numberAt(0));
                ready.removeAt(0);
                turns++;
                beginCall(task.number);
                Coroutine deep = inmostOf(task);
                beginTurn(deep);
                goOn(task, deep);
                if (task.isOver()) {
                    tellOthers(task);
                }
                done++;
            }
            return done;
        }

        private void beginTurn(Coroutine deep) {
            if (deep.state == NEW) {
                deep.goOnAt(0);
                return;
            }
            int k = takesCancel() ? CANCEL : wake(deep);
            if (k != NOTHING) {
                deep.leave(k);
            }
        }

        /** Ends the wait of one whose turn it is; answers what is THROWN by that, or NOTHING. */
        private int wake(Coroutine deep) {
            if (bodies.at(deep.body).kindAt(deep.line) == AWAIT) {
                return takeOutcome(deep, at(deep.there));
            }
            deep.there = 0;
            deep.goOnAt(deep.line + 1);
            return NOTHING;
        }

        private int takeOutcome(Coroutine one, Coroutine awaited) {
            if (awaited.state == FAILED) {
                return Math.min(awaited.there, CANCEL);
            }
            one.there = awaited.there;
            one.goOnAt(one.line + 1);
            return NOTHING;
        }

        /** Those who AWAIT it become READY ahead of those that it SPAWNED. */
        private void tellOthers(Coroutine over) {
            int place = 0;
            for (int rest = awaiting.size; rest > 0; rest--) {
                Coroutine other = at(awaiting.numberAt(place));
                if (other.awaits == over.number) {
                    awaiting.removeAt(place);
                    other.awaits = NONE;
                    ready.add(other.number);
                } else {
                    place++;
                }
            }
            for (int n = 0; n < count && over.state == FAILED; n++) {
                if (has(n, TASK) && at(n).spawner == over.number) {
                    askToCancel(n);
                }
            }
        }

        /** Answers whether it was not asked already. */
        boolean askToCancel(int n) {
            Coroutine task = at(n);
            if (task.isOver()) {
                return false;
            }
            boolean isFirst = !task.isAsked;
            task.isAsked = true;
            if (task.shield == 0 && (task.wakesAt != NONE || task.awaits != NONE)) {
                awaiting.removeAt(awaiting.placeOf(n));
                task.wakesAt = NONE;
                task.awaits = NONE;
                ready.add(n);
            }
            return isFirst;
        }

        /** Answers how many TASKS became READY. */
        int oneTick() {
            now++;
            int woken = 0;
            for (int n = 0; n < count; n++) {
                Coroutine one = at(n);
                if (one.sort == TASK && one.wakesAt == now) {
                    one.wakesAt = NONE;
                    ready.add(n);
                    woken++;
                }
            }
            return woken;
        }

        // ---- going on

        private void beginCall(int task) {
            turnOf = task;
            linesBegun = 0;
            tookTooLong = false;
        }

        private Coroutine inmostOf(Coroutine top) {
            Coroutine deep = top;
            for (int level = 0; level < MOST_COROUTINES && isMade(deep.inner); level++) {
                deep = at(deep.inner);
            }
            return deep;
        }

        /** Goes on with the inmost one, till the top one is OVER or comes to a wait. */
        private void goOn(Coroutine top, Coroutine inmost) {
            running = inmost;
            waits = false;
            for (int step = 0; step < MOST_STEPS && !waits && !top.isOver(); step++) {
                Coroutine one = running;
                if (one.isOver()) {
                    backToOuter();
                    continue;
                }
                int way = wayInstead(one);
                if (way == NOTHING) {
                    way = doLine(one, bodies.at(one.body));
                }
                if (way != NOTHING) {
                    one.leave(way);
                }
            }
        }

        /** Counts the LINE that would begin; answers the way by which the COROUTINE leaves instead, or NOTHING. */
        private int wayInstead(Coroutine one) {
            if (!bodies.at(one.body).hasLine(one.line)) {
                return one.beginReturn();
            }
            if (linesBegun >= LINES_BEFORE_THROW && !tookTooLong) {
                tookTooLong = true;
                return TOO_LONG;
            }
            if (linesBegun >= LINES_BEFORE_END) {
                one.stack.size = 0;
                return TOO_LONG;
            }
            linesBegun++;
            one.linesDone++;
            return NOTHING;
        }

        private void backToOuter() {
            Coroutine ended = running;
            Coroutine outer = at(ended.outer);
            part(outer, ended);
            if (ended.state == RETURNED) {
                outer.there = ended.there;
                outer.goOnAt(outer.line + 1);
            } else {
                outer.leave(ended.there);
            }
            running = outer;
        }

        private void part(Coroutine outer, Coroutine inner) {
            outer.inner = NONE;
            inner.outer = NONE;
        }

        /** Answers the way by which the COROUTINE leaves (a k, or RETURNING), or NOTHING. */
        private int doLine(Coroutine one, Body body) {
            int kind = body.kindAt(one.line);
            int a = body.aAt(one.line);
            switch (kind) {
                case YIELD:
                    return doYield(one);
                case FROM:
                    return doFrom(one, a);
                case SLEEP:
                    return doSleep(one, a);
                case AWAIT:
                    return doAwait(one);
                case SPAWN:
                    return doSpawn(one, a);
                case SHIELD:
                    return doShield(one, a);
                default:
                    return one.doPlain(kind, a, body.bAt(one.line));
            }
        }

        private int doYield(Coroutine one) {
            if (turnOf != NONE) {
                if (takesCancel()) {
                    return CANCEL;
                }
                ready.add(turnOf);
            }
            waitAt(one);
            return NOTHING;
        }

        private int doFrom(Coroutine one, int body) {
            if (!canMake(body)) {
                return CAN_NOT_MAKE;
            }
            Coroutine inner = make(body, INNER, NONE);
            inner.outer = one.number;
            one.inner = inner.number;
            one.state = WAITING;
            inner.goOnAt(0);
            running = inner;
            return NOTHING;
        }

        private int doSleep(Coroutine one, int ticks) {
            if (turnOf == NONE) {
                return NO_TASK_HERE;
            }
            if (takesCancel()) {
                return CANCEL;
            }
            at(turnOf).wakesAt = now + ticks;
            waitAt(one);
            return NOTHING;
        }

        private int doAwait(Coroutine one) {
            if (turnOf == NONE) {
                return NO_TASK_HERE;
            }
            int awaited = one.there;
            if (!has(awaited, TASK) || awaited == turnOf) {
                return NO_SUCH_TASK;
            }
            if (at(awaited).isOver()) {
                return takeOutcome(one, at(awaited));
            }
            if (awaitsTheOwnOne(awaited)) {
                return CIRCLE;
            }
            if (takesCancel()) {
                return CANCEL;
            }
            at(turnOf).awaits = awaited;
            awaiting.add(turnOf);
            waitAt(one);
            return NOTHING;
        }

        private boolean awaitsTheOwnOne(int first) {
            int n = first;
            for (int i = 0; i < MOST_COROUTINES && n != NONE; i++) {
                n = at(n).awaits;
                if (n == turnOf) {
                    return true;
                }
            }
            return false;
        }

        private int doSpawn(Coroutine one, int body) {
            if (turnOf == NONE) {
                return NO_TASK_HERE;
            }
            if (!canMake(body)) {
                return CAN_NOT_MAKE;
            }
            one.there = make(body, TASK, turnOf).number;
            one.line++;
            return NOTHING;
        }

        private int doShield(Coroutine one, int isMore) {
            if (turnOf != NONE) {
                Coroutine task = at(turnOf);
                task.shield = Math.max(0, task.shield + (isMore == 1 ? 1 : -1));
            }
            one.line++;
            return NOTHING;
        }

        private void waitAt(Coroutine one) {
            one.state = WAITING;
            waits = true;
        }

        /** Whether the TASK whose turn it is was asked to be CANCELLED and heeds it now; it is asked no more then. */
        private boolean takesCancel() {
            Coroutine task = at(turnOf);
            if (!task.isAsked || task.shield > 0) {
                return false;
            }
            task.isAsked = false;
            return true;
        }
    }
}

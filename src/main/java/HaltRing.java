/**
 * A debugger model for a small multi-core system: harts that run one program, halt groups, hardware
 * triggers, and a debug module that sends orders to the harts through a ring.
 *
 * <p>Every row is made in the constructors and used again, so that no later call makes an object.
 */
public final class HaltRing {
    public static final int UNKNOWN = -1, OUTSIDE = -2, STATE = -3, FULL = -4, NONE = -9;

    private static final int MOST_LETTERS = 150, MOST_INSTRUCTIONS = 16, MOST_HARTS = 4, MOST_TRIGGERS = 6;
    private static final int MOST_ORDERS = 8, MOST_ACTS = 14, MOST_SIGHTS = 6, SLOTS = 2;
    private static final int LETTERS = 256, PLACES = 16, REGISTERS = 4, CELLS = 8, NUMBERS = 1000, GROUPS = 3;
    private static final int MOST_COUNT = 9, BUFFERED = 2, WAKING_CELL = 7;

    private static final int RUNS = 0, SLEEPS = 1, HALTED = 2;
    private static final int BY_ORDER = 1, BY_TRIGGER = 2, BY_BREAKPOINT = 3, BY_GROUP = 4;
    private static final int HALT = 0, RESUME = 1, RESET = 2, READ = 3, WRITE = 4, RUN_BUFFER = 5;
    private static final int BUSY = 1, NOT_FOR_BUFFER = 3, NOT_HALTED = 4;

    /** The letters of the instructions; an instruction's code is the index here plus 1, as buffer() has it. */
    private static final String INSTRUCTIONS = "adclwjzb";
    private static final int EMPTY = 0, ADD = 1, LESS = 2, COPY = 3, LOAD = 4, STORE = 5;
    private static final int JUMP = 6, SLEEP = 7, BREAK = 8;
    /** How many values the second number of an instruction can have in the text, by code; 0: it has none. */
    private static final int[] SECOND = {0, 10, 0, 4, 8, 8, 16, 0, 0};

    private static final int MOST_TICKS = 99, FORECAST = 60, SIGHT_TICKS = 9, SHARE_TICKS = 20, LOST_TICKS = 10;
    private static final int MOST_STATEMENTS = 3, STATEMENT = 1000000, MOST_DRAWN = 20;
    private static final long SEED_FACTOR = 6364136223846793005L, SEED_STEP = 1442695040888963407L;
    private static final int[] FACTORIAL = {1, 1, 2, 6, 24, 120, 720};

    private final Text text = new Text();
    private final Program program = new Program();
    private final State present = new State();
    /** Where forecasts are played; what it holds between two calls means nothing. */
    private final State trial = new State();
    private final Past past = new Past();
    private final State[] slots = new State[SLOTS];
    private final boolean[] kept = new boolean[SLOTS];
    private final Sights sights = new Sights();
    private final int[] worths = new int[1 << MOST_TRIGGERS];
    private long seed;

    public HaltRing() {
        for (int slot = 0; slot < SLOTS; slot++) {
            slots[slot] = new State();
        }
    }

    // ---- the board

    public int write(int letter) {
        if (letter < 0 || letter >= LETTERS) {
            return OUTSIDE;
        }
        return text.append(letter) ? text.length : FULL;
    }

    public int wipe() {
        int length = text.length;
        text.length = 0;
        return length;
    }

    public int fault() {
        return text.findFault();
    }

    public int board() {
        if (text.findFault() != NONE) {
            return STATE;
        }
        program.copyFrom(text.program);
        present.copyFrom(text.state);
        past.forget();
        for (int slot = 0; slot < SLOTS; slot++) {
            kept[slot] = false;
        }
        return present.hartCount;
    }

    public int hart(int hart, int what) {
        return isHart(hart) ? present.harts[hart].property(what) : UNKNOWN;
    }

    public int trigger(int trigger, int what) {
        return isTrigger(trigger) ? present.triggers[trigger].property(what) : UNKNOWN;
    }

    public int cell(int cell) {
        return isBelow(cell, CELLS) ? present.cells[cell] : OUTSIDE;
    }

    public int order(int order, int what) {
        DebugModule module = present.module;
        return isBelow(order, module.orderCount) ? module.orders[order].property(what) : UNKNOWN;
    }

    // ---- acts

    public int tick(int n) {
        if (n < 1 || n > MOST_TICKS) {
            return OUTSIDE;
        }
        past.push(present);
        present.pass(program, n);
        return present.haltedCount();
    }

    public int send(int order, int hart, int r, int v) {
        if (!isBelow(order, RUN_BUFFER + 1)) {
            return OUTSIDE;
        }
        if (!isHart(hart)) {
            return UNKNOWN;
        }
        boolean hasRegister = order == READ || order == WRITE;
        if (!isBelow(r, hasRegister ? REGISTERS : 1) || !isBelow(v, order == WRITE ? NUMBERS : 1)) {
            return OUTSIDE;
        }
        if (present.module.orderCount >= MOST_ORDERS) {
            return FULL;
        }
        past.push(present);
        present.module.accept(order, hart, r, v);
        return present.module.error;
    }

    public int set(int trigger, int kind, int x, int v, int count, boolean chained) {
        if (!isTrigger(trigger)) {
            return UNKNOWN;
        }
        if (!isBelow(kind, 2) || !isBelow(x, kind == 0 ? PLACES : REGISTERS)
                || !isBelow(v, kind == 0 ? 1 : NUMBERS) || count < 1 || count > MOST_COUNT) {
            return OUTSIDE;
        }
        past.push(present);
        Trigger changed = present.triggers[trigger];
        int previous = changed.kind;
        changed.become(kind, x, v, count, chained);
        return previous;
    }

    public int buffer(int at, int how) {
        if (!isBelow(at, BUFFERED) || !isBuffered(how)) {
            return OUTSIDE;
        }
        past.push(present);
        int previous = present.module.buffer[at];
        present.module.buffer[at] = how;
        return previous;
    }

    public int clear() {
        past.push(present);
        int previous = present.module.error;
        present.module.error = 0;
        return previous;
    }

    public int poke(int cell, int v) {
        if (!isBelow(cell, CELLS) || !isBelow(v, NUMBERS)) {
            return OUTSIDE;
        }
        past.push(present);
        int previous = present.cells[cell];
        present.cells[cell] = v;
        return previous;
    }

    public int undo() {
        return past.popInto(present) ? past.size : STATE;
    }

    // ---- forecasts

    public int ahead(int n, int hart, int what) {
        if (!isHart(hart)) {
            return UNKNOWN;
        }
        if (!isBelow(n, MOST_TICKS + 1)) {
            return OUTSIDE;
        }
        trial.copyFrom(present);
        trial.pass(program, n);
        return trial.harts[hart].property(what);
    }

    public int halts(int hart) {
        if (!isHart(hart)) {
            return UNKNOWN;
        }
        trial.copyFrom(present);
        return ticksUntilHalted(1 << hart, FORECAST);
    }

    public int soonest(int trigger) {
        if (!isTrigger(trigger)) {
            return UNKNOWN;
        }
        int goal = 1 << present.triggers[trigger].owner;
        int best = NONE;
        int limit = FORECAST;
        for (int place = 0; place < PLACES && limit >= 0; place++) {
            trial.copyFrom(present);
            trial.triggers[trigger].become(0, place, 0, 1, false);
            int ticks = ticksUntilHalted(goal, limit);
            if (ticks != NONE) {
                best = place;
                limit = ticks - 1;
            }
        }
        return best;
    }

    public int all(int set) {
        return isBelow(set, present.everyHart() + 1) ? ticksWithHalts(set, FORECAST) : OUTSIDE;
    }

    public int crew() {
        int best = NONE;
        int fewest = FORECAST;
        for (int set = 0; set <= present.everyHart(); set++) {
            // a later set is larger as a number: with as many ticks it wins only by having fewer harts
            boolean winsTies = best == NONE || Integer.bitCount(set) < Integer.bitCount(best);
            int ticks = ticksWithHalts(set, winsTies ? fewest : fewest - 1);
            if (ticks != NONE) {
                best = set;
                fewest = ticks;
            }
        }
        return best;
    }

    public int judge(int n, long row) {
        if (n < 1 || n > MOST_STATEMENTS || row < 0) {
            return OUTSIDE;
        }
        long scale = power(STATEMENT, n);
        if (row >= scale) {
            return OUTSIDE;
        }
        trial.copyFrom(present);
        for (int i = 0; i < n; i++) {
            scale /= STATEMENT;
            if (!holdsInTrial((int) (row / scale % STATEMENT))) {
                return i;
            }
        }
        return NONE;
    }

    // ---- seen

    public int see(int n, int what, int v) {
        if (!isBelow(n, SIGHT_TICKS + 1) || !isBelow(what, 3) || !isBelow(v, Sights.range(what))) {
            return OUTSIDE;
        }
        return sights.append(n, what, v) ? sights.size : FULL;
    }

    public int unsee() {
        int size = sights.size;
        sights.size = 0;
        return size;
    }

    public int which() {
        int candidates = present.everyHart();
        trial.copyFrom(present);
        for (int n = 0; n <= SIGHT_TICKS; n++) {
            if (n > 0) {
                trial.pass(program, 1);
            }
            for (int h = 0; h < trial.hartCount; h++) {
                if (!sights.allow(n, trial.harts[h])) {
                    candidates &= ~(1 << h);
                }
            }
        }
        return candidates;
    }

    // ---- shares, probabilities

    public int share(int trigger, boolean upper) {
        if (!isTrigger(trigger)) {
            return UNKNOWN;
        }
        int triggers = present.triggerCount;
        for (int come = 0; come < 1 << triggers; come++) {
            worths[come] = worth(come);
        }
        long sum = 0;
        for (int come = 0; come < 1 << triggers; come++) {
            if ((come >> trigger & 1) == 0) {
                int before = Integer.bitCount(come);
                int sequences = FACTORIAL[before] * FACTORIAL[triggers - 1 - before];
                sum += (long) sequences * (worths[come | 1 << trigger] - worths[come]);
            }
        }
        return part(sum, FACTORIAL[triggers], upper);
    }

    public int lost(int x, boolean upper) {
        if (!isBelow(x, 11)) {
            return OUTSIDE;
        }
        int orders = present.module.orderCount;
        long sum = 0;
        for (int gone = 0; gone < 1 << orders; gone++) {
            int many = Integer.bitCount(gone);
            long weight = power(x, many) * power(10 - x, orders - many);
            if (weight != 0 && endsHaltedWithout(gone)) {
                sum += weight;
            }
        }
        return part(sum, power(10, orders), upper);
    }

    public long seed(long v) {
        long previous = seed;
        seed = v;
        return previous;
    }

    public int drawn(int m) {
        if (m < 1 || m > MOST_DRAWN) {
            return OUTSIDE;
        }
        int sum = 0;
        trial.copyFrom(present);
        for (int i = 0; i < m; i++) {
            seed = seed * SEED_FACTOR + SEED_STEP;
            if (trial.hartCount > 0) {
                int v = (int) (seed >>> 33);
                if (trial.module.orderCount < MOST_ORDERS) {
                    trial.module.accept(v % 3, v / 4 % trial.hartCount, 0, 0);
                }
                trial.pass(program, 1);
                sum += trial.haltedCount();
            }
        }
        return sum;
    }

    // ---- slots

    public int keep(int slot) {
        if (!isBelow(slot, SLOTS)) {
            return UNKNOWN;
        }
        slots[slot].copyFrom(present);
        kept[slot] = true;
        return present.hartCount;
    }

    public int again(int slot) {
        if (!isBelow(slot, SLOTS)) {
            return UNKNOWN;
        }
        if (!kept[slot]) {
            return STATE;
        }
        present.copyFrom(slots[slot]);
        past.forget();
        return present.hartCount;
    }

    public int count(int what) {
        switch (what) {
            case 0: return text.length;
            case 1: return program.length;
            case 2: return present.hartCount;
            case 3: return present.triggerCount;
            case 4: return present.haltedSet();
            case 5: return present.module.orderCount;
            case 6: return present.module.error;
            case 7: return present.module.data;
            case 8: return present.module.buffer[0];
            case 9: return present.module.buffer[1];
            case 10: return past.size;
            case 11: return sights.size;
            default: return OUTSIDE;
        }
    }

    // ---- helpers

    private static boolean isBelow(int number, int bound) {
        return number >= 0 && number < bound;
    }

    private boolean isHart(int hart) {
        return isBelow(hart, present.hartCount);
    }

    private boolean isTrigger(int trigger) {
        return isBelow(trigger, present.triggerCount);
    }

    /** Whether three digits are an instruction for the buffer. */
    private static boolean isBuffered(int how) {
        int code = how / 100;
        if (how < 0 || code > BREAK) {
            return false;
        }
        // k of j is one digit here, so it stops at 9; what an instruction does not have is 0
        int values = Math.max(1, Math.min(10, SECOND[code]));
        return how / 10 % 10 < (Program.hasRegister(code) ? REGISTERS : 1) && how % 10 < values;
    }

    /** How many ticks, up to a limit, the trial needs until all harts of a set are halted; NONE if it needs more. */
    private int ticksUntilHalted(int goal, int limit) {
        for (int n = 0; n <= limit; n++) {
            if (n > 0) {
                trial.pass(program, 1);
            }
            if ((trial.haltedSet() & goal) == goal) {
                return n;
            }
        }
        return NONE;
    }

    /** How many ticks, up to a limit, until all harts are halted if those of a set are sent a halt now. */
    private int ticksWithHalts(int set, int limit) {
        trial.copyFrom(present);
        for (int h = 0; h < trial.hartCount; h++) {
            if ((set >> h & 1) != 0) {
                trial.module.append(HALT, h, 0, 0);
            }
        }
        return ticksUntilHalted(trial.everyHart(), limit);
    }

    /** Performs a statement of judge() on the trial, or compares it; false if it is wrong in any way. */
    private boolean holdsInTrial(int statement) {
        int second = statement / 10000 % 10;
        int third = statement / 1000 % 10;
        int rest = statement % 1000;
        switch (statement / 100000) {
            case 1:
                trial.pass(program, second * 10 + third);
                return rest == 0 && second + third > 0;
            case 2: return rest == 0 && isSentInTrial(second, third);
            case 3: return rest == 0 && isHart(second) && trial.harts[second].mode == third;
            case 4: return isHart(second) && third < REGISTERS && trial.harts[second].registers[third] == rest;
            case 5: return second < CELLS && third == 0 && trial.cells[second] == rest;
            case 6: return third == 0 && rest == 0 && trial.module.error == second;
            case 7: return rest % 100 == 0 && isHart(second)
                    && trial.harts[second].place == third * 10 + rest / 100;
            default: return false;
        }
    }

    private boolean isSentInTrial(int order, int hart) {
        if (order > RESET || !isHart(hart) || trial.module.orderCount >= MOST_ORDERS) {
            return false;
        }
        trial.module.accept(order, hart, 0, 0);
        return true;
    }

    /** The value, as share() means it, of the triggers of a set. */
    private int worth(int come) {
        int sum = 0;
        trial.copyFrom(present);
        trial.absent = ~come;
        for (int n = 0; n < SHARE_TICKS; n++) {
            trial.pass(program, 1);
            sum += trial.haltedCount();
        }
        return sum;
    }

    private boolean endsHaltedWithout(int gone) {
        trial.copyFrom(present);
        trial.module.lose(gone);
        trial.pass(program, LOST_TICKS);
        return trial.haltedSet() == trial.everyHart();
    }

    private static long power(int base, int exponent) {
        long product = 1;
        for (int i = 0; i < exponent; i++) {
            product *= base;
        }
        return product;
    }

    /** A part of a fraction in lowest terms; the denominator given is positive. */
    private static int part(long upper, long lower, boolean wantsUpper) {
        long divisor = lower;
        long rest = Math.abs(upper);
        // Euclid's steps on numbers of 63 bits are fewer than 100
        for (int i = 0; i < 100 && rest != 0; i++) {
            long next = divisor % rest;
            divisor = rest;
            rest = next;
        }
        if (divisor == 0) {
            return 0;
        }
        return (int) ((wantsUpper ? upper : lower) / divisor);
    }

    /** The instructions: their codes and their two numbers, 0 where an instruction has none. */
    private static final class Program {
        final int[] codes = new int[MOST_INSTRUCTIONS];
        final int[] firsts = new int[MOST_INSTRUCTIONS];
        final int[] seconds = new int[MOST_INSTRUCTIONS];
        int length;

        static boolean hasRegister(int code) {
            return code >= ADD && code <= JUMP;
        }

        void append(int code, int first, int second) {
            if (length < MOST_INSTRUCTIONS) {
                codes[length] = code;
                firsts[length] = first;
                seconds[length] = second;
                length++;
            }
        }

        void copyFrom(Program other) {
            System.arraycopy(other.codes, 0, codes, 0, MOST_INSTRUCTIONS);
            System.arraycopy(other.firsts, 0, firsts, 0, MOST_INSTRUCTIONS);
            System.arraycopy(other.seconds, 0, seconds, 0, MOST_INSTRUCTIONS);
            length = other.length;
        }
    }

    /** The characters written so far, and the reading of them as a board, into a program and a state of its own. */
    private static final class Text {
        final int[] letters = new int[MOST_LETTERS];
        int length;
        final Program program = new Program();
        final State state = new State();
        /** The next character to be read; once faulty, the fault. */
        int at;
        boolean faulty;

        boolean append(int letter) {
            if (length >= MOST_LETTERS) {
                return false;
            }
            letters[length] = letter;
            length++;
            return true;
        }

        /** Returns the fault of the text, or NONE: then the program and the state are those of the board. */
        int findFault() {
            at = 0;
            faulty = false;
            // nothing but harts and triggers ever changes in this state: its cells and module are those of the beginning
            program.length = 0;
            state.hartCount = 0;
            state.triggerCount = 0;
            take('R', 1);
            for (int parts = 0; parts < MOST_LETTERS && !faulty && at < length; parts++) {
                readPart(letters[at]);
            }
            return faulty ? at : NONE;
        }

        void readPart(int letter) {
            switch (letter) {
                case 'i': readInstruction(); break;
                case 'h': readHart(); break;
                case 't': readTrigger(false); break;
                case 'T': readTrigger(true); break;
                default: faulty = true; break;
            }
        }

        void readInstruction() {
            if (program.length >= MOST_INSTRUCTIONS) {
                faulty = true;
                return;
            }
            at++;
            int code = takeCode();
            int first = Program.hasRegister(code) ? take('0', REGISTERS) : 0;
            int second = SECOND[code] > 0 ? take(code == JUMP ? 'a' : '0', SECOND[code]) : 0;
            if (!faulty) {
                program.append(code, first, second);
            }
        }

        void readHart() {
            if (state.hartCount >= MOST_HARTS) {
                faulty = true;
                return;
            }
            at++;
            int first = take('a', PLACES);
            int group = take('0', GROUPS);
            if (!faulty) {
                state.addHart(first, group);
            }
        }

        void readTrigger(boolean chained) {
            if (state.hartCount == 0 || state.triggerCount >= MOST_TRIGGERS) {
                faulty = true;
                return;
            }
            at++;
            int owner = take('0', state.hartCount);
            // q, the letter of kind 1, is next to p, that of kind 0
            int kind = take('p', 2);
            int x = kind == 0 ? take('a', PLACES) : take('0', REGISTERS);
            int value = kind == 0 ? 0 : take('0', 10) * 100 + take('0', 10) * 10 + take('0', 10);
            int count = 1 + take('1', MOST_COUNT);
            if (!faulty) {
                state.addTrigger(owner).become(kind, x, value, count, chained);
            }
        }

        /** Takes the letter of an instruction; returns its code, or EMPTY with a fault. */
        int takeCode() {
            int code = at < length ? INSTRUCTIONS.indexOf((char) letters[at]) + 1 : EMPTY;
            if (code == EMPTY) {
                faulty = true;
            } else {
                at++;
            }
            return code;
        }

        /** Takes one of the characters that begin with a lowest one; returns its distance from that, 0 with a fault. */
        int take(int lowest, int many) {
            int distance = !faulty && at < length ? letters[at] - lowest : NONE;
            if (!isBelow(distance, many)) {
                faulty = true;
                return 0;
            }
            at++;
            return distance;
        }
    }

    private static final class Hart {
        final int[] registers = new int[REGISTERS];
        int first, group, place, mode, cause;
        boolean mark;

        void copyFrom(Hart other) {
            System.arraycopy(other.registers, 0, registers, 0, REGISTERS);
            first = other.first;
            group = other.group;
            place = other.place;
            mode = other.mode;
            cause = other.cause;
            mark = other.mark;
        }

        int property(int what) {
            switch (what) {
                case 0: return place;
                case 1: return mode;
                case 2: return cause;
                case 3: return mark ? 1 : 0;
                case 8: return group;
                case 9: return first;
                default: return isBelow(what - 4, REGISTERS) ? registers[what - 4] : OUTSIDE;
            }
        }

        void restart() {
            for (int r = 0; r < REGISTERS; r++) {
                registers[r] = 0;
            }
            place = first;
            mode = RUNS;
            cause = 0;
            mark = false;
        }

        void halt(int why) {
            if (mode != HALTED) {
                mode = HALTED;
                cause = why;
            }
        }

        void resume() {
            if (mode == HALTED) {
                mode = mark ? SLEEPS : RUNS;
                cause = 0;
            }
        }

        void sleep() {
            mode = SLEEPS;
            mark = true;
        }

        void wake() {
            mark = false;
            if (mode == SLEEPS) {
                mode = RUNS;
            }
        }
    }

    private static final class Trigger {
        int owner, kind, x, value, count, left;
        boolean chained;

        void copyFrom(Trigger other) {
            owner = other.owner;
            kind = other.kind;
            x = other.x;
            value = other.value;
            count = other.count;
            left = other.left;
            chained = other.chained;
        }

        int property(int what) {
            switch (what) {
                case 0: return owner;
                case 1: return kind;
                case 2: return x;
                case 3: return value;
                case 4: return count;
                case 5: return left;
                case 6: return chained ? 1 : 0;
                default: return OUTSIDE;
            }
        }

        void become(int newKind, int newX, int newValue, int newCount, boolean nowChained) {
            kind = newKind;
            x = newX;
            value = newValue;
            count = newCount;
            left = newCount;
            chained = nowChained;
        }

        boolean matches(Hart hart) {
            return kind == 0 ? hart.place == x : hart.registers[x] == value;
        }

        /** Counts a match of the chain that this trigger begins; returns whether it was the last one needed. */
        boolean countsDown() {
            left--;
            if (left > 0) {
                return false;
            }
            left = count;
            return true;
        }
    }

    private static final class Order {
        int kind, target, register, value, age, code, taken;

        void copyFrom(Order other) {
            kind = other.kind;
            target = other.target;
            register = other.register;
            value = other.value;
            age = other.age;
            code = other.code;
            taken = other.taken;
        }

        int property(int what) {
            switch (what) {
                case 0: return kind;
                case 1: return target;
                case 2: return age;
                case 3: return code;
                default: return OUTSIDE;
            }
        }

        boolean isAbstract() {
            return kind >= READ;
        }
    }

    /** The debug module with its queue; all() needs room for a halt to each hart behind a full queue. */
    private static final class DebugModule {
        final Order[] orders = new Order[MOST_ORDERS + MOST_HARTS];
        final int[] buffer = new int[BUFFERED];
        int orderCount, error, data;

        DebugModule() {
            for (int i = 0; i < orders.length; i++) {
                orders[i] = new Order();
            }
        }

        void copyFrom(DebugModule other) {
            for (int i = 0; i < other.orderCount; i++) {
                orders[i].copyFrom(other.orders[i]);
            }
            System.arraycopy(other.buffer, 0, buffer, 0, BUFFERED);
            orderCount = other.orderCount;
            error = other.error;
            data = other.data;
        }

        /** Takes an order that is sent, or drops it. */
        void accept(int kind, int target, int register, int value) {
            if (kind >= READ && error != 0) {
                return;
            }
            if (kind >= READ && hasAbstract()) {
                error = BUSY;
                return;
            }
            append(kind, target, register, value);
        }

        boolean hasAbstract() {
            for (int i = 0; i < orderCount; i++) {
                if (orders[i].isAbstract()) {
                    return true;
                }
            }
            return false;
        }

        void append(int kind, int target, int register, int value) {
            if (orderCount >= orders.length) {
                return;
            }
            Order order = orders[orderCount];
            order.kind = kind;
            order.target = target;
            order.register = register;
            order.value = value;
            order.age = 0;
            order.code = 0;
            order.taken = 0;
            orderCount++;
        }

        /** Removes the orders at the positions of a set. */
        void lose(int gone) {
            int stay = 0;
            for (int i = 0; i < orderCount; i++) {
                if ((gone >> i & 1) == 0) {
                    moveForward(i, stay);
                    stay++;
                }
            }
            orderCount = stay;
        }

        /** Puts an order at a place before it whose order has left, and that one, to be used again, at its own. */
        void moveForward(int from, int to) {
            Order order = orders[from];
            orders[from] = orders[to];
            orders[to] = order;
        }

        void finish(Order order) {
            if (order.code != 0) {
                error = error == 0 ? order.code : error;
            } else if (order.kind == READ) {
                data = order.taken;
            }
        }
    }

    /** Harts, cells, triggers, module and orders: all that an act can change. */
    private static final class State {
        final DebugModule module = new DebugModule();
        final Hart[] harts = new Hart[MOST_HARTS];
        final Trigger[] triggers = new Trigger[MOST_TRIGGERS];
        final int[] cells = new int[CELLS];
        int hartCount, triggerCount;
        /** The triggers, as a set, that never match; some only while share() tries what they are worth. */
        int absent;
        /** Whether the waking cell was written in this tick. */
        boolean wakes;

        State() {
            for (int h = 0; h < MOST_HARTS; h++) {
                harts[h] = new Hart();
            }
            for (int t = 0; t < MOST_TRIGGERS; t++) {
                triggers[t] = new Trigger();
            }
        }

        void addHart(int first, int group) {
            if (hartCount < MOST_HARTS) {
                Hart hart = harts[hartCount];
                hart.first = first;
                hart.group = group;
                hart.restart();
                hartCount++;
            }
        }

        /** Returns the next free trigger, or the last one where none is free. */
        Trigger addTrigger(int owner) {
            int t = Math.min(triggerCount, MOST_TRIGGERS - 1);
            triggers[t].owner = owner;
            triggerCount = t + 1;
            return triggers[t];
        }

        void copyFrom(State other) {
            module.copyFrom(other.module);
            for (int h = 0; h < other.hartCount; h++) {
                harts[h].copyFrom(other.harts[h]);
            }
            for (int t = 0; t < other.triggerCount; t++) {
                triggers[t].copyFrom(other.triggers[t]);
            }
            System.arraycopy(other.cells, 0, cells, 0, CELLS);
            hartCount = other.hartCount;
            triggerCount = other.triggerCount;
            absent = other.absent;
        }

        int everyHart() {
            return (1 << hartCount) - 1;
        }

        int haltedSet() {
            int set = 0;
            for (int h = 0; h < hartCount; h++) {
                if (harts[h].mode == HALTED) {
                    set |= 1 << h;
                }
            }
            return set;
        }

        int haltedCount() {
            return Integer.bitCount(haltedSet());
        }

        /** Lets n ticks pass. */
        void pass(Program program, int n) {
            for (int i = 0; i < n; i++) {
                int haltedBefore = haltedSet();
                wakes = false;
                moveOrders();
                for (int h = 0; h < hartCount; h++) {
                    step(h, program);
                }
                spreadHalts(haltedSet() & ~haltedBefore);
                if (wakes) {
                    wakeAll();
                }
            }
        }

        void moveOrders() {
            int stay = 0;
            for (int i = 0; i < module.orderCount; i++) {
                Order order = module.orders[i];
                order.age++;
                if (order.age == order.target + 1) {
                    reach(order);
                }
                if (order.age == hartCount + 1) {
                    module.finish(order);
                } else {
                    module.moveForward(i, stay);
                    stay++;
                }
            }
            module.orderCount = stay;
        }

        /** Does what an order does to its hart when it reaches it. */
        void reach(Order order) {
            Hart hart = harts[order.target];
            if (order.isAbstract() && hart.mode != HALTED) {
                order.code = NOT_HALTED;
                return;
            }
            switch (order.kind) {
                case HALT: hart.halt(BY_ORDER); break;
                case RESUME: hart.resume(); break;
                case RESET: restart(order.target); break;
                case READ: order.taken = hart.registers[order.register]; break;
                case WRITE: hart.registers[order.register] = order.value; break;
                default: order.code = runBuffer(hart); break;
            }
        }

        void restart(int h) {
            harts[h].restart();
            for (int t = 0; t < triggerCount; t++) {
                if (triggers[t].owner == h) {
                    triggers[t].left = triggers[t].count;
                }
            }
        }

        /** Executes the buffer on a hart; returns the code with which that failed, or 0. */
        int runBuffer(Hart hart) {
            for (int i = 0; i < BUFFERED && module.buffer[i] != EMPTY; i++) {
                int how = module.buffer[i];
                if (how / 100 >= JUMP) {
                    return NOT_FOR_BUFFER;
                }
                calculate(hart, how / 100, how / 10 % 10, how % 10);
            }
            return 0;
        }

        /** Lets a hart, if it runs, meet a trigger or else execute an instruction. */
        void step(int h, Program program) {
            Hart hart = harts[h];
            if (hart.mode != RUNS || program.length == 0) {
                return;
            }
            if (hart.place >= program.length) {
                hart.place = 0;
            }
            if (isStopped(h)) {
                hart.halt(BY_TRIGGER);
                return;
            }
            int at = hart.place;
            int first = program.firsts[at];
            int second = program.seconds[at];
            hart.place = at + 1;
            switch (program.codes[at]) {
                case JUMP: hart.place = hart.registers[first] != 0 ? second : at + 1; break;
                case SLEEP: hart.sleep(); break;
                case BREAK: hart.halt(BY_BREAKPOINT); break;
                default: calculate(hart, program.codes[at], first, second); break;
            }
        }

        /** Examines the chains of a hart in order; returns whether one of them halts it. */
        boolean isStopped(int h) {
            int chain = NONE;
            boolean matches = false;
            for (int t = 0; t < triggerCount; t++) {
                if (triggers[t].owner == h) {
                    if (chain == NONE) {
                        chain = t;
                        matches = true;
                    }
                    matches = matches && (absent >> t & 1) == 0 && triggers[t].matches(harts[h]);
                    if (!isJoined(t)) {
                        if (matches && triggers[chain].countsDown()) {
                            return true;
                        }
                        chain = NONE;
                    }
                }
            }
            return false;
        }

        /** Whether a trigger's chain goes on with the next trigger. */
        boolean isJoined(int t) {
            return triggers[t].chained && t + 1 < triggerCount && triggers[t + 1].owner == triggers[t].owner;
        }

        /** Executes an instruction that neither jumps nor stops the hart. */
        void calculate(Hart hart, int code, int first, int second) {
            int[] registers = hart.registers;
            switch (code) {
                case ADD: registers[first] = (registers[first] + second) % NUMBERS; break;
                case LESS: registers[first] = registers[first] > 0 ? registers[first] - 1 : 0; break;
                case COPY: registers[first] = registers[second]; break;
                case LOAD: registers[first] = cells[second]; break;
                case STORE:
                    cells[second] = registers[first];
                    wakes = wakes || second == WAKING_CELL;
                    break;
                default: break;
            }
        }

        void wakeAll() {
            for (int h = 0; h < hartCount; h++) {
                harts[h].wake();
            }
        }

        /** Halts the groups of the harts of a set: those that were halted in this tick. */
        void spreadHalts(int fresh) {
            int groups = 0;
            for (int h = 0; h < hartCount; h++) {
                if ((fresh >> h & 1) != 0) {
                    groups |= 1 << harts[h].group;
                }
            }
            for (int h = 0; h < hartCount; h++) {
                if (harts[h].group != 0 && (groups >> harts[h].group & 1) != 0) {
                    harts[h].halt(BY_GROUP);
                }
            }
        }
    }

    /** The states before the latest acts, in a ring: the oldest makes room for a new one. */
    private static final class Past {
        final State[] states = new State[MOST_ACTS];
        int next;
        int size;

        Past() {
            for (int i = 0; i < MOST_ACTS; i++) {
                states[i] = new State();
            }
        }

        void forget() {
            size = 0;
        }

        void push(State state) {
            states[next].copyFrom(state);
            next = (next + 1) % MOST_ACTS;
            size = Math.min(size + 1, MOST_ACTS);
        }

        /** Takes the latest state back; false if there is none. */
        boolean popInto(State state) {
            if (size == 0) {
                return false;
            }
            next = (next + MOST_ACTS - 1) % MOST_ACTS;
            size--;
            state.copyFrom(states[next]);
            return true;
        }
    }

    /** What was seen of an unknown hart. */
    private static final class Sights {
        final int[] ticks = new int[MOST_SIGHTS];
        final int[] whats = new int[MOST_SIGHTS];
        final int[] values = new int[MOST_SIGHTS];
        int size;

        /** How many values a kind of sight has. */
        static int range(int what) {
            switch (what) {
                case 0: return PLACES;
                case 1: return HALTED + 1;
                default: return NUMBERS;
            }
        }

        boolean append(int n, int what, int value) {
            if (size >= MOST_SIGHTS) {
                return false;
            }
            ticks[size] = n;
            whats[size] = what;
            values[size] = value;
            size++;
            return true;
        }

        /** Whether a hart, after n ticks, agrees with all sights of that time. */
        boolean allow(int n, Hart hart) {
            for (int i = 0; i < size; i++) {
                if (ticks[i] == n && seen(hart, whats[i]) != values[i]) {
                    return false;
                }
            }
            return true;
        }

        static int seen(Hart hart, int what) {
            switch (what) {
                case 0: return hart.place;
                case 1: return hart.mode;
                default: return hart.registers[0];
            }
        }
    }
}

public final class FibreDesk {
    public static final int REFUSED = -1, NOTHING = -1000000;

    private static final int FIBRES = 12, PROGRAMS = 6, CHANNELS = 4, CARRIERS = 3;
    private static final int REGISTERS = 3, INSTRUCTIONS = 12, ROOM = 3, OUTS = 16;
    private static final int MOST_SLICE = 8, MOST_TICKS = 2000, LAST_TIME = 100000000;
    private static final int NONE = -1;

    // The draft is kept as one program more, so that making a program is a copy between equals.
    private static final int DRAFT = PROGRAMS;
    private static final int PROGRAM_PLACES = PROGRAMS + 1;
    private static final int CODE_CELLS = PROGRAM_PLACES * INSTRUCTIONS;
    private static final int REGISTER_CELLS = FIBRES * REGISTERS;
    private static final int NUMBER_CELLS = CHANNELS * ROOM;
    private static final int WAITING_CELLS = CHANNELS * FIBRES;

    private static final int READY = 1, ON = 2, WAITING = 3, SLEEPING = 4, DONE = 5, FAILED = 6;

    private static final int SET = 0, ADD = 1, JUMP = 2, ZERO = 3, YIELD = 4, SLEEP = 5, SEND = 6;
    private static final int RECEIVE = 7, CHOOSE = 8, START = 9, JOIN = 10, CLOSE = 11, OUT = 12, END = 13;

    private final int[] ops = new int[CODE_CELLS];
    private final int[] firsts = new int[CODE_CELLS];
    private final int[] seconds = new int[CODE_CELLS];
    private final int[] thirds = new int[CODE_CELLS];
    private final int[] lengths = new int[PROGRAM_PLACES];

    private final int[] states = new int[FIBRES];
    private final int[] runs = new int[FIBRES];
    private final int[] next = new int[FIBRES];
    private final int[] registers = new int[REGISTER_CELLS];
    private final int[] wakesAt = new int[FIBRES];
    // What a WAITING fibre waits for: the fibre it joins (or NONE, at a channel), whether it is to
    // send there, the number it brings then, and otherwise the register that gets the number.
    private final int[] joins = new int[FIBRES];
    private final boolean[] sends = new boolean[FIBRES];
    private final int[] brings = new int[FIBRES];
    private final int[] into = new int[FIBRES];

    private final int[] capacities = new int[CHANNELS];
    private final boolean[] closed = new boolean[CHANNELS];
    private final int[] numbers = new int[NUMBER_CELLS];
    private final int[] numberCounts = new int[CHANNELS];
    private final int[] waiting = new int[WAITING_CELLS];
    private final int[] waitingCounts = new int[CHANNELS];

    private final int[] readyRow = new int[FIBRES];
    private int readyCount = 0;
    private final int[] aboard = new int[CARRIERS];
    private final int[] doneThere = new int[CARRIERS];
    private final int carrierCount;
    private int sliceLength = 4;
    private int now = 0;
    private final int[] outs = new int[OUTS];
    private int outCount = 0;

    public FibreDesk(int carriers) {
        carrierCount = carriers < 1 ? 1 : carriers > CARRIERS ? CARRIERS : carriers;
        for (int k = 0; k < CARRIERS; k++) {
            aboard[k] = NONE;
        }
    }

    public int code(int op, int a, int b, int c) {
        if (lengths[DRAFT] >= INSTRUCTIONS || !operandsFit(op, a, b, c)) {
            return REFUSED;
        }
        int at = DRAFT * INSTRUCTIONS + lengths[DRAFT];
        ops[at] = op;
        firsts[at] = a;
        seconds[at] = b;
        thirds[at] = c;
        lengths[DRAFT]++;
        return lengths[DRAFT];
    }

    public int program(int p) {
        if (!isBelow(p, PROGRAMS) || isProgramAtWork(p)) {
            return REFUSED;
        }
        for (int i = 0; i < INSTRUCTIONS; i++) {
            int from = DRAFT * INSTRUCTIONS + i;
            int to = p * INSTRUCTIONS + i;
            ops[to] = ops[from];
            firsts[to] = firsts[from];
            seconds[to] = seconds[from];
            thirds[to] = thirds[from];
        }
        lengths[p] = lengths[DRAFT];
        lengths[DRAFT] = 0;
        return lengths[p];
    }

    public boolean channel(int c, int capacity) {
        if (!isBelow(c, CHANNELS) || capacity < 0 || capacity > ROOM || waitingCounts[c] > 0) {
            return false;
        }
        capacities[c] = capacity;
        closed[c] = false;
        numberCounts[c] = 0;
        return true;
    }

    public boolean slice(int n) {
        if (n < 1 || n > MOST_SLICE) {
            return false;
        }
        sliceLength = n;
        return true;
    }

    public int start(int p, int v) {
        if (!isBelow(p, PROGRAMS)) {
            return REFUSED;
        }
        return launch(p, v);
    }

    // The ticks stand here, not in a method of their own, to keep the calls at most six deep.
    public int run(int n) {
        if (n < 0 || n > MOST_TICKS || now > LAST_TIME - n) {
            return REFUSED;
        }
        int done = 0;
        for (int i = 0; i < n && canGoOn(); i++) {
            now++;
            wakeSleepers();
            for (int k = 0; k < carrierCount; k++) {
                board(k);
                if (aboard[k] != NONE) {
                    perform(aboard[k]);
                    done++;
                    leaveIfDue(k);
                }
            }
        }
        return done;
    }

    public int state(int f) {
        return isBelow(f, FIBRES) ? states[f] : REFUSED;
    }

    public int of(int f, int what) {
        if (!isBelow(f, FIBRES) || states[f] == 0) {
            return REFUSED;
        }
        if (isBelow(what, REGISTERS)) {
            return registers[f * REGISTERS + what];
        }
        if (what == 3) {
            return next[f];
        }
        if (what == 4) {
            return runs[f];
        }
        return what == 5 && states[f] == SLEEPING ? wakesAt[f] - now : REFUSED;
    }

    public int row(int k) {
        if (k == -1) {
            return readyCount;
        }
        return isBelow(k, readyCount) ? readyRow[k] : REFUSED;
    }

    public int carrier(int k) {
        return isBelow(k, carrierCount) && aboard[k] != NONE ? aboard[k] : REFUSED;
    }

    public int held(int c, int k) {
        if (!isBelow(c, CHANNELS)) {
            return REFUSED - 1;
        }
        if (k == -1) {
            return numberCounts[c];
        }
        if (k == -2) {
            return closed[c] ? capacities[c] + 10 : capacities[c];
        }
        return isBelow(k, numberCounts[c]) ? numbers[c * ROOM + k] : REFUSED - 1;
    }

    public int waits(int c, int k) {
        if (!isBelow(c, CHANNELS)) {
            return REFUSED;
        }
        if (k == -1) {
            return waitingCounts[c];
        }
        return isBelow(k, waitingCounts[c]) ? waiting[c * FIBRES + k] : REFUSED;
    }

    public int out(int k) {
        if (k == -1) {
            return outCount;
        }
        return isBelow(k, OUTS) && k < outCount ? outs[(outCount - 1 - k) % OUTS] : 0;
    }

    public int time() {
        return now;
    }

    private static boolean isBelow(int x, int bound) {
        return x >= 0 && x < bound;
    }

    private static boolean operandsFit(int op, int a, int b, int c) {
        switch (op) {
            case SET:
            case SLEEP:
            case OUT:
                return isBelow(a, REGISTERS);
            case ADD:
            case JOIN:
                return isBelow(a, REGISTERS) && isBelow(b, REGISTERS);
            case JUMP:
                return isTarget(a);
            case ZERO:
                return isBelow(a, REGISTERS) && isTarget(b);
            case SEND:
            case RECEIVE:
                return isBelow(a, CHANNELS) && isBelow(b, REGISTERS);
            case CHOOSE:
                return isBelow(a, CHANNELS) && isBelow(b, CHANNELS) && isBelow(c, REGISTERS);
            case START:
                return isBelow(a, PROGRAMS) && isBelow(b, REGISTERS);
            case CLOSE:
                return isBelow(a, CHANNELS);
            default:
                return op == YIELD || op == END;
        }
    }

    // A jump may go one behind the last place of a program: to its end.
    private static boolean isTarget(int x) {
        return x >= 0 && x <= INSTRUCTIONS;
    }

    private boolean isAtWork(int f) {
        return states[f] >= READY && states[f] <= SLEEPING;
    }

    private boolean isProgramAtWork(int p) {
        for (int f = 0; f < FIBRES; f++) {
            if (runs[f] == p && isAtWork(f)) {
                return true;
            }
        }
        return false;
    }

    private boolean canGoOn() {
        for (int f = 0; f < FIBRES; f++) {
            if (isAtWork(f) && states[f] != WAITING) {
                return true;
            }
        }
        return false;
    }

    private int launch(int p, int v) {
        if (lengths[p] == 0) {
            return REFUSED;
        }
        for (int f = 0; f < FIBRES; f++) {
            if (!isAtWork(f)) {
                runs[f] = p;
                next[f] = 0;
                registers[f * REGISTERS] = v;
                for (int r = 1; r < REGISTERS; r++) {
                    registers[f * REGISTERS + r] = 0;
                }
                toRow(f);
                return f;
            }
        }
        return REFUSED;
    }

    private void toRow(int f) {
        states[f] = READY;
        readyRow[readyCount] = f;
        readyCount++;
    }

    private void wakeSleepers() {
        for (int f = 0; f < FIBRES; f++) {
            if (states[f] == SLEEPING && wakesAt[f] == now) {
                toRow(f);
            }
        }
    }

    private void board(int k) {
        if (aboard[k] != NONE || readyCount == 0) {
            return;
        }
        int f = readyRow[0];
        readyCount--;
        for (int i = 0; i < readyCount; i++) {
            readyRow[i] = readyRow[i + 1];
        }
        states[f] = ON;
        aboard[k] = f;
        doneThere[k] = 0;
    }

    private void leaveIfDue(int k) {
        int f = aboard[k];
        doneThere[k]++;
        // The slice may have become shorter than what was done there already.
        if (states[f] == ON && doneThere[k] >= sliceLength) {
            toRow(f);
        }
        if (states[f] != ON) {
            aboard[k] = NONE;
        }
    }

    private void perform(int f) {
        if (next[f] >= lengths[runs[f]]) {
            finish(f, DONE);
            return;
        }
        int at = runs[f] * INSTRUCTIONS + next[f];
        int a = firsts[at];
        int b = seconds[at];
        int own = f * REGISTERS;
        switch (ops[at]) {
            case SET:
                registers[own + a] = b;
                next[f]++;
                break;
            case ADD:
                registers[own + a] += registers[own + b];
                next[f]++;
                break;
            case JUMP:
                next[f] = a;
                break;
            case ZERO:
                next[f] = registers[own + a] == 0 ? b : next[f] + 1;
                break;
            case YIELD:
                next[f]++;
                toRow(f);
                break;
            case SLEEP:
                fallAsleep(f, registers[own + a]);
                break;
            case SEND:
                send(f, a, registers[own + b]);
                break;
            case RECEIVE:
                receive(f, a, a, b);
                break;
            case CHOOSE:
                receive(f, a, b, thirds[at]);
                break;
            case START:
                registers[own + b] = launch(a, registers[own + b]);
                next[f]++;
                break;
            case JOIN:
                join(f, registers[own + a], b);
                break;
            case CLOSE:
                close(a);
                next[f]++;
                break;
            case OUT:
                putOut(registers[own + a]);
                next[f]++;
                break;
            default:
                finish(f, DONE);
        }
    }

    private void fallAsleep(int f, int number) {
        int ticks = number & 31;
        wakesAt[f] = now + (ticks == 0 ? 1 : ticks);
        states[f] = SLEEPING;
        next[f]++;
    }

    private void putOut(int number) {
        outs[outCount % OUTS] = number;
        outCount++;
    }

    private void send(int f, int c, int number) {
        if (closed[c]) {
            finish(f, FAILED);
            return;
        }
        int receiver = firstWaiting(c, false);
        if (receiver == NONE && numberCounts[c] >= capacities[c]) {
            sends[f] = true;
            brings[f] = number;
            waitAt(f, c);
            return;
        }
        if (receiver != NONE) {
            fillRegister(receiver, number);
            release(receiver);
        } else {
            hold(c, number);
        }
        next[f]++;
    }

    // RECEIVE is a choice between a channel and itself.
    private void receive(int f, int first, int second, int r) {
        boolean firstGives = givesAtOnce(first);
        if (firstGives || givesAtOnce(second)) {
            registers[f * REGISTERS + r] = takeFrom(firstGives ? first : second);
            next[f]++;
            return;
        }
        sends[f] = false;
        into[f] = r;
        waitAt(f, first);
        if (second != first) {
            waitAt(f, second);
        }
    }

    private boolean givesAtOnce(int c) {
        return numberCounts[c] > 0 || closed[c] || firstWaiting(c, true) != NONE;
    }

    private int takeFrom(int c) {
        int sender = firstWaiting(c, true);
        if (numberCounts[c] == 0 && sender == NONE) {
            return NOTHING;
        }
        int number = 0;
        if (numberCounts[c] == 0) {
            number = brings[sender];
        } else {
            number = numbers[c * ROOM];
            dropFirstNumber(c);
            if (sender != NONE) {
                hold(c, brings[sender]);
            }
        }
        if (sender != NONE) {
            release(sender);
        }
        return number;
    }

    private void hold(int c, int number) {
        numbers[c * ROOM + numberCounts[c]] = number;
        numberCounts[c]++;
    }

    private void dropFirstNumber(int c) {
        numberCounts[c]--;
        for (int i = 0; i < numberCounts[c]; i++) {
            numbers[c * ROOM + i] = numbers[c * ROOM + i + 1];
        }
    }

    private void close(int c) {
        closed[c] = true;
        for (int i = 0; i < FIBRES && waitingCounts[c] > 0; i++) {
            int f = waiting[c * FIBRES];
            if (sends[f]) {
                leaveChannels(f);
                finish(f, FAILED);
            } else {
                fillRegister(f, NOTHING);
                release(f);
            }
        }
    }

    private void join(int f, int other, int r) {
        boolean exists = isBelow(other, FIBRES) && other != f;
        if (exists && isAtWork(other)) {
            joins[f] = other;
            into[f] = r;
            states[f] = WAITING;
            return;
        }
        boolean isDone = exists && states[other] == DONE;
        registers[f * REGISTERS + r] = isDone ? registers[other * REGISTERS] : NOTHING;
        next[f]++;
    }

    private void finish(int f, int end) {
        states[f] = end;
        int number = end == DONE ? registers[f * REGISTERS] : NOTHING;
        for (int j = 0; j < FIBRES; j++) {
            if (states[j] == WAITING && joins[j] == f) {
                fillRegister(j, number);
                release(j);
            }
        }
    }

    private void waitAt(int f, int c) {
        states[f] = WAITING;
        joins[f] = NONE;
        waiting[c * FIBRES + waitingCounts[c]] = f;
        waitingCounts[c]++;
    }

    private int firstWaiting(int c, boolean toSend) {
        for (int i = 0; i < waitingCounts[c]; i++) {
            int f = waiting[c * FIBRES + i];
            if (sends[f] == toSend) {
                return f;
            }
        }
        return NONE;
    }

    private void fillRegister(int f, int number) {
        registers[f * REGISTERS + into[f]] = number;
    }

    private void release(int f) {
        leaveChannels(f);
        next[f]++;
        toRow(f);
    }

    // All channels are looked at, since a fibre that chooses waits at two.
    private void leaveChannels(int f) {
        for (int c = 0; c < CHANNELS; c++) {
            int kept = 0;
            for (int i = 0; i < waitingCounts[c]; i++) {
                int other = waiting[c * FIBRES + i];
                if (other != f) {
                    waiting[c * FIBRES + kept] = other;
                    kept++;
                }
            }
            waitingCounts[c] = kept;
        }
    }
}

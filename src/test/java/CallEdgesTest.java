/**
 * Promises 1 to 7 and 15, the calls that change a desk, and time: for each sentence that names an edge the last value
 * that is taken, the first that is refused on either side, and that a refused call leaves everything as it was.
 */
public final class CallEdgesTest {
    private static final int MIN = Integer.MIN_VALUE, MAX = Integer.MAX_VALUE;
    private static final int READY = 1, ON = 2, WAITING = 3, SLEEPING = 4, DONE = 5, FAILED = 6;

    public static void main(String[] args) {
        Shown.dueBusy();
        carriersBelowOneAreOne();
        carriersAboveThreeAreThree();
        newSliceIsFour();
        newChannelsHaveNoRoom();
        newDeskHasNoProgramsAndNoFibres();
        opOutsideIsRefused();
        operandOutsideIsRefused();
        operandAtItsBoundIsTaken();
        operandNotNamedIsNotLookedAt();
        thirteenthInstructionIsRefused();
        noSuchProgram();
        programRunByOneAtWork();
        programRunByOneThatEnded();
        programOfAnEmptyDraft();
        programMadeShorter();
        channelNotAsSaid();
        channelWhereOneWaits();
        channelWhereNoOneWaitsAnyMore();
        channelIsEmptyAndNotClosed();
        sliceThatIsNone();
        sliceAtItsBounds();
        startOfNoProgram();
        startOfAnEmptyProgram();
        startWithTwelveAtWork();
        startTakesTheLeastNumber();
        startSetsTheOtherRegistersToZero();
        runOfAnotherN();
        runOfZero();
        runOfTwoThousand();
        runOnlyUntilNoneGoesOn();
        runWithWaitingOnesAlone();
        runWithSleepersAlone();
        timeStandsOutsideOfTicks();
        Due.end();
    }

    private static FibreDesk deskWithLoops(int carriers, int fibres) {
        FibreDesk x = new FibreDesk(carriers);
        Op.program(x, 0, Op.op(Op.JUMP, 0));
        for (int f = 0; f < fibres; f++) {
            Due.due("start", x.start(0, 0), f);
        }
        return x;
    }

    private static void dueCarriers(int given, int due) {
        FibreDesk x = deskWithLoops(given, 4);
        Due.due("instructions of a tick, given " + given, x.run(1), due);
        for (int k = 0; k < 4; k++) {
            Due.due("carrier(" + k + "), given " + given, x.carrier(k), k < due ? k : -1);
        }
    }

    /** 1: "Carriers 1 .. 3 (below 1 is 1". */
    private static void carriersBelowOneAreOne() {
        for (int given : new int[] {MIN, -2, -1, 0, 1}) {
            dueCarriers(given, 1);
        }
        dueCarriers(2, 2);
    }

    /** 1: "above 3 is 3)". */
    private static void carriersAboveThreeAreThree() {
        for (int given : new int[] {3, 4, 5, 256, MAX}) {
            dueCarriers(given, 3);
        }
    }

    /** 1: "SLICE 4". */
    private static void newSliceIsFour() {
        FibreDesk x = deskWithLoops(1, 2);
        x.run(3);
        Due.due("ON after three", x.carrier(0), 0);
        x.run(1);
        Op.dueRow(x, "not after four", 1, 0);
    }

    /** 1: "channels of capacity 0, not closed". */
    private static void newChannelsHaveNoRoom() {
        for (int c = 0; c < 4; c++) {
            FibreDesk x = new FibreDesk(1);
            Due.due("held(" + c + ", -2)", x.held(c, -2), 0);
            Op.dueHeld(x, "new", c);
            Op.dueWaits(x, "new", c);
            Op.program(x, 0, Op.op(Op.SEND, c, 0));
            x.start(0, 5);
            x.run(1);
            Due.due("it waits at once", x.state(0), WAITING);
            Op.dueWaits(x, "there", c, 0);
        }
    }

    /** 1: "no programs, no fibres; time 0". */
    private static void newDeskHasNoProgramsAndNoFibres() {
        FibreDesk x = new FibreDesk(3);
        for (int p = 0; p < 6; p++) {
            Due.due("start(" + p + ", 0)", x.start(p, 0), -1);
        }
        for (int f = 0; f < 12; f++) {
            Due.due("state(" + f + ")", x.state(f), 0);
        }
        Op.dueRow(x, "new");
        Due.due("out(-1)", x.out(-1), 0);
        Due.due("time()", x.time(), 0);
        Due.due("run(2000)", x.run(2000), 0);
        Due.due("time()", x.time(), 0);
        Due.due("the draft is empty", x.program(0), 0);
    }

    /** 2: "REFUSED if op is not 0 .. 13". */
    private static void opOutsideIsRefused() {
        for (int op : new int[] {MIN, -14, -1, 14, 15, 64, MAX}) {
            Shown.dueUnchanged("code(" + op + ", 0, 0, 0)", x -> x.code(op, 0, 0, 0), -1);
        }
        FibreDesk x = new FibreDesk(1);
        Due.due("op 0", x.code(0, 0, 0, 0), 1);
        Due.due("op 13", x.code(13, 0, 0, 0), 2);
    }

    /** For each op what bounds its operands: 3 registers, 4 channels, 6 programs, 13 targets; 0: not looked at. */
    private static final int[][] BOUNDS = {
        {3, 0, 0}, {3, 3, 0}, {13, 0, 0}, {3, 13, 0}, {0, 0, 0}, {3, 0, 0}, {4, 3, 0},
        {4, 3, 0}, {4, 4, 3}, {6, 3, 0}, {3, 3, 0}, {4, 0, 0}, {3, 0, 0}, {0, 0, 0}};

    private static int[] operands(int place, int value) {
        int[] o = {0, 0, 0};
        o[place] = value;
        return o;
    }

    private static String call(int op, int[] o) {
        return "code(" + op + ", " + o[0] + ", " + o[1] + ", " + o[2] + ")";
    }

    /** 2: "or an operand is not as said: registers 0 .. 2, channels 0 .. 3, programs 0 .. 5, targets 0 .. 12". */
    private static void operandOutsideIsRefused() {
        for (int op = 0; op < 14; op++) {
            int number = op;
            for (int place = 0; place < 3; place++) {
                int bound = BOUNDS[op][place];
                for (int value : new int[] {MIN, -1, bound, bound + 1, MAX}) {
                    int[] o = operands(place, value);
                    if (bound > 0) {
                        Shown.dueUnchanged(call(op, o), x -> x.code(number, o[0], o[1], o[2]), -1);
                    }
                }
            }
        }
    }

    private static void operandAtItsBoundIsTaken() {
        for (int op = 0; op < 14; op++) {
            FibreDesk x = new FibreDesk(1);
            int count = 0;
            for (int place = 0; place < 3; place++) {
                for (int value = 0; value < BOUNDS[op][place]; value++) {
                    int[] o = operands(place, value);
                    if (count == 12) {
                        Due.due("program", x.program(0), 12);
                        count = 0;
                    }
                    count++;
                    Due.due(call(op, o), x.code(op, o[0], o[1], o[2]), count);
                }
            }
            int[] most = new int[3];
            for (int place = 0; place < 3; place++) {
                most[place] = Math.max(0, BOUNDS[op][place] - 1);
            }
            x.program(0);
            Due.due(call(op, most), x.code(op, most[0], most[1], most[2]), 1);
        }
    }

    /** 2: "what an op does not name is not looked at, nor b of SET". */
    private static void operandNotNamedIsNotLookedAt() {
        for (int op = 0; op < 14; op++) {
            for (int value : new int[] {MIN, -1, 3, 4, 6, 12, 13, MAX}) {
                int[] o = new int[3];
                for (int place = 0; place < 3; place++) {
                    o[place] = BOUNDS[op][place] > 0 ? 0 : value;
                }
                FibreDesk x = new FibreDesk(1);
                Due.due(call(op, o), x.code(op, o[0], o[1], o[2]), 1);
            }
        }
        FibreDesk x = new FibreDesk(1);
        x.channel(0, 1);
        Op.program(x, 0, Op.op(Op.SET, 1, MIN, MAX), Op.op(Op.ADD, 0, 1, 99), Op.op(Op.SEND, 0, 0, -7),
                Op.op(Op.RECEIVE, 0, 2, MAX), Op.op(Op.OUT, 2, MIN, MIN), Op.op(Op.JUMP, 7, -1, -1),
                Op.op(Op.END, MIN, MIN, MIN), Op.op(Op.YIELD, -5, -5, -5), Op.op(Op.SLEEP, 1, MAX, MAX));
        x.start(0, 8);
        Due.due("all but the END that is jumped over, and the one behind", x.run(20), 9);
        Op.dueOut(x, "what went through the channel", MIN + 8);
        Due.due("it came behind the last", x.of(0, 3), 9);
    }

    /** 2: "REFUSED if .. there are 12". */
    private static void thirteenthInstructionIsRefused() {
        for (int op = 0; op < 14; op++) {
            int number = op;
            Shown.dueUnchanged("the 13th code, op " + op, 1, x -> {
                for (int i = 1; i <= 11; i++) {
                    Due.due("code", x.code(Op.OUT, i % 2, 0, 0), i);
                }
                Due.due("the twelfth", x.code(Op.SET, 0, 3, 0), 12);
            }, x -> x.code(number, 0, 0, 0), -1);
        }
        FibreDesk x = new FibreDesk(1);
        for (int i = 1; i <= 12; i++) {
            Due.due("code " + i, x.code(i % 2 == 0 ? Op.ADD : Op.OUT, 0, 0, 0), i);
        }
        for (int op = 0; op < 14; op++) {
            Due.due("the thirteenth, op " + op, x.code(op, 0, 0, 0), -1);
        }
        Due.due("program(0)", x.program(0), 12);
        Due.due("which is empty then", x.code(Op.OUT, 0, 0, 0), 1);
        x.start(0, 6);
        Due.due("twelve and the END behind them", x.run(100), 13);
        Op.dueOut(x, "each of the twelve as it was", 6, 12, 24, 48, 96, 192);
        Due.due("the last one doubled it", x.of(0, 0), 384);
        Due.due("behind the last", x.of(0, 3), 12);
    }

    /** 3: "REFUSED, and the draft stays, if there is no such program". */
    private static void noSuchProgram() {
        for (int p : new int[] {MIN, -2, -1, 6, 7, MAX}) {
            Shown.dueUnchanged("program(" + p + ")", x -> x.program(p), -1);
        }
        for (int p = 0; p < 6; p++) {
            FibreDesk x = new FibreDesk(1);
            x.code(Op.OUT, 0, 0, 0);
            Due.due("program(" + p + ")", x.program(p), 1);
            for (int other = 0; other < 6; other++) {
                Due.due("start(" + other + ", 5)", x.start(other, 5), other == p ? 0 : -1);
            }
            Due.due("of(0, 4)", x.of(0, 4), p);
            Due.due("OUT and END", x.run(9), 2);
        }
    }

    /** A desk with one fibre of program 0 in the state, and one instruction in the draft. */
    private static void makeOneOf(FibreDesk x, int state, int[] waitsAt) {
        int[][] first = {null, {Op.END}, {Op.JUMP, 0}, waitsAt, {Op.SLEEP, 0}, {Op.END}, {Op.SEND, 3, 0}};
        if (state == FAILED) {
            Op.program(x, 1, Op.op(Op.CLOSE, 3));
            x.start(1, 0);
            x.run(9);
        }
        Op.program(x, 0, first[state]);
        if (state == WAITING) {
            Op.program(x, 2, Op.op(Op.RECEIVE, 2, 0));
            x.start(0, 1);
            x.start(2, 0);
            x.run(9);
        } else {
            x.start(0, 1);
            x.run(state == READY ? 0 : 1);
        }
        Due.due("state(0)", x.state(0), state);
        x.code(Op.OUT, 0, 0, 0);
    }

    private static final int[][] WAITS = {{Op.SEND, 0, 0}, {Op.RECEIVE, 0, 0}, {Op.CHOOSE, 0, 1, 2}, {Op.JOIN, 0, 2}};

    /** 3: "or a fibre at work (READY, ON, WAITING, SLEEPING) runs it". */
    private static void programRunByOneAtWork() {
        for (int state : new int[] {READY, ON, SLEEPING}) {
            Shown.dueUnchanged("program(0), state " + state, 1, x -> makeOneOf(x, state, null), x -> x.program(0), -1);
        }
        for (int[] waitsAt : WAITS) {
            Shown.dueUnchanged("program(0), waiting at " + waitsAt[0], 1, x -> makeOneOf(x, WAITING, waitsAt),
                    x -> x.program(0), -1);
        }
        FibreDesk x = new FibreDesk(1);
        makeOneOf(x, ON, null);
        Due.due("program(0)", x.program(0), -1);
        Due.due("another is made of the draft that stayed", x.program(5), 1);
        Due.due("start(5, 9)", x.start(5, 9), 1);
        x.run(9);
        Op.dueOut(x, "what was in the draft", 9);
    }

    private static void programRunByOneThatEnded() {
        for (int state : new int[] {DONE, FAILED}) {
            FibreDesk x = new FibreDesk(1);
            makeOneOf(x, state, null);
            int at = x.of(0, 3);
            Due.due("program(0), state " + state, x.program(0), 1);
            Due.due("state(0)", x.state(0), state);
            Due.due("of(0, 3)", x.of(0, 3), at);
            Due.due("start(0, 4)", x.start(0, 4), 0);
            Due.due("program(0), its place taken by a new one", x.program(0), -1);
            x.run(9);
            Op.dueOut(x, "the new program", 4);
        }
        FibreDesk x = new FibreDesk(1);
        Op.program(x, 0, Op.op(Op.END));
        Op.program(x, 1, Op.op(Op.JUMP, 0));
        x.start(0, 0);
        x.run(9);
        x.start(1, 0);
        Due.due("program(0), whose fibre's place another program has", x.program(0), 0);
        Due.due("program(1)", x.program(1), -1);
    }

    /** 3: "The draft, which is empty then, becomes program p: how many instructions it has". */
    private static void programOfAnEmptyDraft() {
        FibreDesk x = new FibreDesk(1);
        Op.program(x, 4, Op.op(Op.END));
        Due.due("program(4) of nothing", x.program(4), 0);
        Due.due("start(4, 0)", x.start(4, 0), -1);
        Due.due("state(0)", x.state(0), 0);
        Due.due("the draft begins anew", x.code(Op.END, 0, 0, 0), 1);
        Due.due("program(4)", x.program(4), 1);
        Due.due("start(4, 0)", x.start(4, 0), 0);
    }

    private static void programMadeShorter() {
        FibreDesk x = new FibreDesk(1);
        Op.program(x, 0, Op.op(Op.OUT, 0), Op.op(Op.OUT, 0), Op.op(Op.OUT, 0));
        Op.program(x, 0, Op.op(Op.SET, 1, 1));
        x.start(0, 5);
        Due.due("SET and the END behind it", x.run(9), 2);
        Op.dueOut(x, "nothing");
        Due.due("of(0, 3)", x.of(0, 3), 1);
        x.code(Op.JUMP, 2, 0, 0);
        x.program(0);
        x.start(0, 5);
        Due.due("JUMP and the END there", x.run(9), 2);
        Op.dueOut(x, "nothing");
        Due.due("of(0, 3)", x.of(0, 3), 2);
    }

    /** 4: "false, and nothing changes, if a number is not as said". */
    private static void channelNotAsSaid() {
        for (int c : new int[] {MIN, -1, 4, 5, MAX}) {
            for (int capacity : new int[] {MIN, -1, 0, 3, 4, MAX}) {
                Shown.dueUnchanged("channel(" + c + ", " + capacity + ")", x -> Shown.number(x.channel(c, capacity)), 0);
            }
        }
        for (int c = 0; c < 4; c++) {
            int number = c;
            for (int capacity : new int[] {MIN, -1, 4, 5, MAX}) {
                Shown.dueUnchanged("channel(" + c + ", " + capacity + ")",
                        x -> Shown.number(x.channel(number, capacity)), 0);
            }
        }
        FibreDesk x = new FibreDesk(1);
        for (int c = 0; c < 4; c++) {
            for (int capacity = 3; capacity >= 0; capacity--) {
                Due.due("channel(" + c + ", " + capacity + ")", x.channel(c, capacity), true);
                Due.due("held(" + c + ", -2)", x.held(c, -2), capacity);
            }
            x.channel(c, 3 - c);
        }
        for (int c = 0; c < 4; c++) {
            Due.due("held(" + c + ", -2)", x.held(c, -2), 3 - c);
        }
    }

    /** 4: "false, and nothing changes, if .. a fibre waits there". */
    private static void channelWhereOneWaits() {
        for (int c : new int[] {0, 1, 3}) {
            for (int capacity = 0; capacity <= 3; capacity++) {
                int room = capacity;
                Shown.dueUnchanged("channel(" + c + ", " + capacity + ") where one chooses or sends",
                        x -> Shown.number(x.channel(c, room)), 0);
            }
        }
        for (int[] waitsAt : new int[][] {{Op.SEND, 2, 0}, {Op.RECEIVE, 2, 0}, {Op.CHOOSE, 2, 2, 0}}) {
            Shown.dueUnchanged("channel(2, 1), waiting at " + waitsAt[0], 1, x -> {
                Op.program(x, 0, waitsAt);
                x.start(0, 1);
                x.run(9);
            }, x -> Shown.number(x.channel(2, 1)), 0);
        }
    }

    private static void channelWhereNoOneWaitsAnyMore() {
        FibreDesk x = new FibreDesk(1);
        Op.program(x, 0, Op.op(Op.CHOOSE, 0, 3, 0), Op.op(Op.JUMP, 1));
        Op.program(x, 1, Op.op(Op.SEND, 3, 0), Op.op(Op.JOIN, 1, 2));
        x.start(0, 0);
        x.run(9);
        Due.due("channel(0, 1)", x.channel(0, 1), false);
        Due.due("channel(3, 1)", x.channel(3, 1), false);
        Due.due("channel(1, 1), where no one waits", x.channel(1, 1), true);
        x.start(1, 5);
        x.run(2);
        Due.due("channel(0, 1)", x.channel(0, 1), true);
        Due.due("channel(3, 1)", x.channel(3, 1), true);
        x.run(9);
        Due.due("the other waits for an end", x.state(1), WAITING);
        Due.due("channel(3, 2)", x.channel(3, 2), true);
    }

    /** 4: "The channel is empty, not closed and has this capacity: true". */
    private static void channelIsEmptyAndNotClosed() {
        for (int capacity = 0; capacity <= 3; capacity++) {
            FibreDesk x = new FibreDesk(1);
            x.channel(2, 3);
            Op.program(x, 0, Op.op(Op.SEND, 2, 0), Op.op(Op.SEND, 2, 0), Op.op(Op.SEND, 2, 0), Op.op(Op.CLOSE, 2));
            Op.program(x, 1, Op.op(Op.SEND, 2, 0), Op.op(Op.SEND, 2, 0), Op.op(Op.SEND, 2, 0), Op.op(Op.SEND, 2, 0));
            x.start(0, 5);
            x.run(9);
            Op.dueHeld(x, "full", 2, 5, 5, 5);
            Due.due("closed", x.held(2, -2), 13);
            Due.due("channel(2, " + capacity + ")", x.channel(2, capacity), true);
            Op.dueHeld(x, "empty", 2);
            Due.due("not closed", x.held(2, -2), capacity);
            x.start(1, 6);
            x.run(9);
            Due.due("it waits when there is no more room", x.state(0), WAITING);
            Due.due("at instruction", x.of(0, 3), capacity);
            Due.due("held(2, -1)", x.held(2, -1), capacity);
        }
    }

    /** 5: "false if it is none". */
    private static void sliceThatIsNone() {
        for (int n : new int[] {MIN, -8, -1, 0, 9, 10, MAX}) {
            Shown.dueUnchanged("slice(" + n + ")", x -> Shown.number(x.slice(n)), 0);
            FibreDesk x = deskWithLoops(1, 2);
            x.slice(n);
            x.run(3);
            Due.due("ON after three", x.carrier(0), 0);
            x.run(1);
            Op.dueRow(x, "not after four", 1, 0);
        }
    }

    /** 5: "The SLICE (1 .. 8)". */
    private static void sliceAtItsBounds() {
        for (int n = 1; n <= 8; n++) {
            FibreDesk x = deskWithLoops(1, 2);
            Due.due("slice(" + n + ")", x.slice(n), true);
            x.run(n - 1);
            Due.due("ON before " + n, x.state(0), n == 1 ? READY : ON);
            x.run(1);
            Op.dueRow(x, "not after " + n, 1, 0);
        }
    }

    /** 6: "REFUSED if there is no such program". */
    private static void startOfNoProgram() {
        for (int p : new int[] {MIN, -6, -1, 6, 7, MAX}) {
            Shown.dueUnchanged("start(" + p + ", 1)", x -> x.start(p, 1), -1);
        }
        for (int p : new int[] {0, 5}) {
            FibreDesk x = new FibreDesk(1);
            Op.program(x, p, Op.op(Op.END));
            Due.due("start(" + p + ", 1)", x.start(p, 1), 0);
        }
    }

    /** 6: "or it is empty"; the draft is no program, however much there is in it. */
    private static void startOfAnEmptyProgram() {
        Shown.dueUnchanged("start(5, 1)", x -> x.start(5, 1), -1);
        FibreDesk x = new FibreDesk(1);
        x.code(Op.END, 0, 0, 0);
        for (int p = -1; p <= 7; p++) {
            Due.due("start(" + p + ", 1)", x.start(p, 1), -1);
        }
        Due.due("row(-1)", x.row(-1), 0);
    }

    /** Twelve at work: 0 to 2 SLEEPING, 3 to 5 WAITING, of the others three ON and three READY, if they have run. */
    private static void makeFull(FibreDesk x) {
        Op.program(x, 0, Op.op(Op.SLEEP, 0));
        Op.program(x, 1, Op.op(Op.RECEIVE, 0, 0));
        Op.program(x, 2, Op.op(Op.JUMP, 0));
        for (int f = 0; f < 12; f++) {
            Due.due("start", x.start(f < 3 ? 0 : f < 6 ? 1 : 2, 31), f);
        }
    }

    /** 6: "or 12 are at work". */
    private static void startWithTwelveAtWork() {
        for (int p = 0; p < 3; p++) {
            int number = p;
            Shown.dueUnchanged("start, twelve READY", 3, CallEdgesTest::makeFull, x -> x.start(number, 1), -1);
            Shown.dueUnchanged("start, twelve at work", 3, x -> {
                makeFull(x);
                x.run(4);
                Due.due("SLEEPING", x.state(0), SLEEPING);
                Due.due("WAITING", x.state(5), WAITING);
                Due.due("READY", x.state(11), READY);
                Due.due("ON", x.state(8), ON);
            }, x -> x.start(number, 1), -1);
        }
        FibreDesk x = new FibreDesk(3);
        makeFull(x);
        x.run(60);
        Due.due("one is DONE", x.state(2), DONE);
        for (int f = 0; f < 3; f++) {
            Due.due("start in its place", x.start(2, f), f);
        }
        Due.due("twelve again", x.start(2, 0), -1);
    }

    /** 6: "the least number that is none, DONE or FAILED". */
    private static void startTakesTheLeastNumber() {
        FibreDesk x = new FibreDesk(1);
        Op.program(x, 0, Op.op(Op.RECEIVE, 0, 0));
        Op.program(x, 1, Op.op(Op.END));
        Op.program(x, 2, Op.op(Op.CLOSE, 1), Op.op(Op.SEND, 1, 0));
        int[] programs = {0, 2, 0, 1, 0};
        for (int p : programs) {
            x.start(p, 0);
        }
        x.run(50);
        int[] states = {WAITING, FAILED, WAITING, DONE, WAITING, 0};
        for (int f = 0; f < 6; f++) {
            Due.due("state(" + f + ")", x.state(f), states[f]);
        }
        int[] due = {1, 3, 5, 6, 7, 8, 9, 10, 11, -1};
        for (int number : due) {
            Due.due("start(0, 0)", x.start(0, 0), number);
        }
        Op.dueRow(x, "at its end", 1, 3, 5, 6, 7, 8, 9, 10, 11);
    }

    /** 6: "with program p and register 0 = v (others 0)". */
    private static void startSetsTheOtherRegistersToZero() {
        for (int v : new int[] {MIN, -1, 0, 1, MAX}) {
            FibreDesk x = new FibreDesk(1);
            Op.program(x, 0, Op.op(Op.SET, 1, 8), Op.op(Op.SET, 2, 9), Op.op(Op.JUMP, 7));
            x.start(0, 5);
            x.run(9);
            Due.due("of(0, 3)", x.of(0, 3), 7);
            Op.program(x, 3, Op.op(Op.END));
            Due.due("start(3, " + v + ")", x.start(3, v), 0);
            Due.due("state(0)", x.state(0), READY);
            int[] due = {v, 0, 0, 0, 3, -1};
            for (int what = 0; what < 6; what++) {
                Due.due("of(0, " + what + ")", x.of(0, what), due[what]);
            }
        }
    }

    /** 7: "REFUSED for another n". */
    private static void runOfAnotherN() {
        for (int n : new int[] {MIN, -2000, -1, 2001, 100000000, MAX}) {
            Shown.dueUnchanged("run(" + n + ")", x -> x.run(n), -1);
            FibreDesk x = new FibreDesk(1);
            Due.due("run(" + n + ") where none is at work", x.run(n), -1);
        }
    }

    private static void runOfZero() {
        Shown.dueUnchanged("run(0)", x -> x.run(0), 0);
    }

    /** 7: "n ticks (0 .. 2000)". */
    private static void runOfTwoThousand() {
        for (int n : new int[] {1, 2, 1999, 2000}) {
            FibreDesk x = deskWithLoops(2, 3);
            Due.due("run(" + n + ")", x.run(n), 2 * n);
            Due.due("time()", x.time(), n);
        }
    }

    /** 7: "but at most until no fibre is READY, ON a carrier or SLEEPING". */
    private static void runOnlyUntilNoneGoesOn() {
        for (int n : new int[] {3, 4, 5, 2000}) {
            FibreDesk x = new FibreDesk(1);
            Op.program(x, 0, Op.op(Op.SET, 1, 1), Op.op(Op.YIELD), Op.op(Op.OUT, 1));
            x.start(0, 0);
            Due.due("run(" + n + ")", x.run(n), n < 4 ? n : 4);
            Due.due("time()", x.time(), n < 4 ? n : 4);
            Due.due("state(0)", x.state(0), n < 4 ? ON : DONE);
            Due.due("run(10)", x.run(10), n < 4 ? 1 : 0);
            Due.due("time()", x.time(), 4);
        }
    }

    private static void runWithWaitingOnesAlone() {
        for (int[] waitsAt : WAITS) {
            Shown.dueUnchanged("run(2000), waiting at " + waitsAt[0], 1, x -> {
                Op.program(x, 0, waitsAt);
                Op.program(x, 2, Op.op(Op.RECEIVE, 2, 0));
                x.start(0, 1);
                x.start(2, 0);
                Due.due("run(2000)", x.run(2000), 2);
                Due.due("time()", x.time(), 2);
            }, x -> x.run(2000), 0);
        }
    }

    private static void runWithSleepersAlone() {
        FibreDesk x = new FibreDesk(1);
        Op.program(x, 0, Op.op(Op.SLEEP, 0));
        x.start(0, 31);
        Due.due("SLEEP", x.run(1), 1);
        Due.due("ticks without an instruction", x.run(30), 0);
        Due.due("time()", x.time(), 31);
        Due.due("END", x.run(2000), 1);
        Due.due("time()", x.time(), 32);
    }

    /** 15: "The time"; it grows by a tick alone. */
    private static void timeStandsOutsideOfTicks() {
        Shown.dueUnchanged("time()", FibreDesk::time, 34);
        FibreDesk x = deskWithLoops(1, 1);
        x.run(7);
        x.code(Op.OUT, 0, 0, 0);
        x.program(1);
        x.channel(0, 1);
        x.slice(2);
        x.start(1, 0);
        x.run(0);
        x.run(2001);
        Due.due("time()", x.time(), 7);
        x.run(1);
        Due.due("time()", x.time(), 8);
    }
}

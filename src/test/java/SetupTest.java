/** Promises 1 to 5: a new object, code, program, channel, slice. */
public final class SetupTest {
    private static final int MIN = Integer.MIN_VALUE, MAX = Integer.MAX_VALUE;

    public static void main(String[] args) {
        newObject();
        carriersAreClamped();
        operands();
        operandsNotLookedAt();
        draftIsFullAtTwelve();
        program();
        programAtWork();
        programOfEndedFibre();
        channel();
        channelWithWaiting();
        slice();
        sliceFromNowOn();
        Due.end();
    }

    private static void newObject() {
        FibreDesk x = new FibreDesk(2);
        Due.due("time()", x.time(), 0);
        Due.due("row(-1)", x.row(-1), 0);
        Due.due("out(-1)", x.out(-1), 0);
        for (int f = 0; f < 12; f++) {
            Due.due("state of no fibre", x.state(f), 0);
            Due.due("of no fibre", x.of(f, 4), -1);
        }
        for (int k = 0; k < 3; k++) {
            Due.due("carrier", x.carrier(k), -1);
        }
        for (int c = 0; c < 4; c++) {
            Due.due("held, how many", x.held(c, -1), 0);
            Due.due("held, capacity", x.held(c, -2), 0);
            Due.due("waits, how many", x.waits(c, -1), 0);
        }
        for (int p = 0; p < 6; p++) {
            Due.due("start of no program", x.start(p, 0), -1);
        }
        Due.due("the draft is empty", x.code(Op.END, 0, 0, 0), 1);
    }

    private static void carriersAreClamped() {
        int[][] givenAndDue = {{MIN, 1}, {-1, 1}, {0, 1}, {1, 1}, {2, 2}, {3, 3}, {4, 3}, {MAX, 3}};
        for (int[] pair : givenAndDue) {
            FibreDesk x = new FibreDesk(pair[0]);
            Op.program(x, 0, Op.op(Op.JUMP, 0));
            for (int i = 0; i < 4; i++) {
                x.start(0, 0);
            }
            Due.due("instructions in a tick, carriers " + pair[0], x.run(1), pair[1]);
            for (int k = 0; k < 4; k++) {
                Due.due("carrier(" + k + ") of " + pair[0], x.carrier(k), k < pair[1] ? k : -1);
            }
        }
    }

    /** For each op the bounds of its three operands: -1 is one that the op does not look at. */
    private static final int[][] BOUNDS = {
        {3, -1, -1}, {3, 3, -1}, {13, -1, -1}, {3, 13, -1}, {-1, -1, -1}, {3, -1, -1}, {4, 3, -1},
        {4, 3, -1}, {4, 4, 3}, {6, 3, -1}, {3, 3, -1}, {4, -1, -1}, {3, -1, -1}, {-1, -1, -1}};

    private static void operands() {
        int[] tried = {MIN, -1, 0, 1, 2, 3, 4, 5, 6, 7, 12, 13, MAX};
        for (int op = 0; op < 14; op++) {
            for (int place = 0; place < 3; place++) {
                FibreDesk x = new FibreDesk(1);
                int count = 0;
                for (int value : tried) {
                    int[] o = {0, 0, 0};
                    o[place] = value;
                    int bound = BOUNDS[op][place];
                    boolean fits = bound == -1 || value >= 0 && value < bound;
                    if (fits && count == 12) {
                        x.program(0);
                        count = 0;
                    }
                    count += fits ? 1 : 0;
                    Due.due("code(" + op + ", " + o[0] + ", " + o[1] + ", " + o[2] + ")",
                            x.code(op, o[0], o[1], o[2]), fits ? count : -1);
                }
            }
        }
        FibreDesk x = new FibreDesk(1);
        for (int op : new int[] {MIN, -1, 14, 15, MAX}) {
            Due.due("code of op " + op, x.code(op, 0, 0, 0), -1);
        }
        Due.due("refused ones are not appended", x.program(0), 0);
    }

    private static void operandsNotLookedAt() {
        FibreDesk x = new FibreDesk(1);
        Due.due("SET to the least", x.code(Op.SET, 0, MIN, MAX), 1);
        Due.due("OUT", x.code(Op.OUT, 0, -7, 99), 2);
        Due.due("YIELD", x.code(Op.YIELD, MIN, MAX, MIN), 3);
        Due.due("END", x.code(Op.END, -5, MAX, 70), 4);
        Due.due("program(0)", x.program(0), 4);
        x.start(0, 0);
        Due.due("run(9)", x.run(9), 4);
        Due.due("out(0)", x.out(0), MIN);
    }

    private static void draftIsFullAtTwelve() {
        FibreDesk x = new FibreDesk(1);
        for (int i = 1; i <= 12; i++) {
            Due.due("code " + i, x.code(Op.OUT, 0, 0, 0), i);
        }
        Due.due("code 13", x.code(Op.OUT, 0, 0, 0), -1);
        Due.due("program(5)", x.program(5), 12);
        Due.due("the draft is empty then", x.code(Op.OUT, 0, 0, 0), 1);
        x.start(5, 8);
        Due.due("twelve and the END behind them", x.run(50), 13);
        Due.due("out(-1)", x.out(-1), 12);
        Due.due("of(0, 3)", x.of(0, 3), 12);
    }

    private static void program() {
        FibreDesk x = new FibreDesk(1);
        Due.due("code", x.code(Op.OUT, 1, 0, 0), 1);
        for (int p : new int[] {MIN, -1, 6, 7, MAX}) {
            Due.due("program(" + p + ")", x.program(p), -1);
        }
        Due.due("the draft stays", x.code(Op.OUT, 0, 0, 0), 2);
        Due.due("program(5)", x.program(5), 2);
        Due.due("program(5) of an empty draft", x.program(5), 0);
        Due.due("start of an empty program", x.start(5, 0), -1);
        Op.program(x, 2, Op.op(Op.SET, 1, 5), Op.op(Op.OUT, 1), Op.op(Op.OUT, 1));
        Op.program(x, 2, Op.op(Op.OUT, 0));
        x.start(2, 9);
        Due.due("the shorter one alone is run", x.run(20), 2);
        Op.dueOut(x, "shorter program", 9);
    }

    private static void programAtWork() {
        FibreDesk x = new FibreDesk(1);
        Op.program(x, 0, Op.op(Op.SLEEP, 0), Op.op(Op.RECEIVE, 0, 0), Op.op(Op.END));
        Op.program(x, 1, Op.op(Op.SEND, 0, 0));
        x.start(0, 2);
        x.code(Op.OUT, 0, 0, 0);
        Due.due("program of a READY one", x.program(0), -1);
        x.run(1);
        Due.due("SLEEPING", x.state(0), 4);
        Due.due("program of a SLEEPING one", x.program(0), -1);
        x.run(2);
        Due.due("WAITING", x.state(0), 3);
        Due.due("program of a WAITING one", x.program(0), -1);
        Due.due("another program", x.program(3), 1);
        x.start(1, 5);
        x.run(1);
        Due.due("ON", x.state(1), 2);
        Due.due("program of an ON one", x.program(1), -1);
        x.run(100);
        Due.due("DONE", x.state(0), 5);
        Due.due("program of a DONE one", x.program(0), 0);
    }

    private static void programOfEndedFibre() {
        FibreDesk x = new FibreDesk(1);
        Op.program(x, 0, Op.op(Op.CLOSE, 0), Op.op(Op.SEND, 0, 0));
        x.start(0, 2);
        x.run(9);
        Due.due("FAILED", x.state(0), 6);
        Op.program(x, 0, Op.op(Op.END));
        Due.due("the place where it FAILED", x.of(0, 3), 1);
    }

    private static void channel() {
        FibreDesk x = new FibreDesk(1);
        for (int c : new int[] {MIN, -1, 4, MAX}) {
            Due.due("channel(" + c + ", 0)", x.channel(c, 0), false);
        }
        for (int capacity : new int[] {MIN, -1, 4, MAX}) {
            Due.due("channel(3, " + capacity + ")", x.channel(3, capacity), false);
        }
        for (int capacity = 0; capacity <= 3; capacity++) {
            Due.due("channel(3, " + capacity + ")", x.channel(3, capacity), true);
            Due.due("held(3, -2)", x.held(3, -2), capacity);
            Due.due("held(2, -2)", x.held(2, -2), 0);
        }
        Op.program(x, 0, Op.op(Op.SEND, 3, 0), Op.op(Op.SEND, 3, 0), Op.op(Op.CLOSE, 3));
        x.start(0, 4);
        x.run(20);
        Op.dueHeld(x, "before", 3, 4, 4);
        Due.due("closed", x.held(3, -2), 13);
        Due.due("channel(3, 4)", x.channel(3, 4), false);
        Op.dueHeld(x, "nothing changes", 3, 4, 4);
        Due.due("still closed", x.held(3, -2), 13);
        Due.due("channel(3, 1)", x.channel(3, 1), true);
        Op.dueHeld(x, "empty", 3);
        Due.due("not closed", x.held(3, -2), 1);
    }

    private static void channelWithWaiting() {
        FibreDesk x = new FibreDesk(1);
        Op.program(x, 0, Op.op(Op.CHOOSE, 1, 2, 0));
        Op.program(x, 1, Op.op(Op.SEND, 3, 0), Op.op(Op.SEND, 3, 0));
        Due.due("channel(3, 1)", x.channel(3, 1), true);
        x.start(0, 0);
        x.start(1, 6);
        x.run(20);
        Due.due("channel(1, 2) where one chooses", x.channel(1, 2), false);
        Due.due("channel(2, 2) where one chooses", x.channel(2, 2), false);
        Due.due("channel(3, 2) where one sends", x.channel(3, 2), false);
        Due.due("held(1, -2)", x.held(1, -2), 0);
        Due.due("held(3, -2)", x.held(3, -2), 1);
        Op.dueHeld(x, "nothing changes", 3, 6);
        Due.due("channel(0, 2)", x.channel(0, 2), true);
    }

    private static void slice() {
        for (int n = 1; n <= 8; n++) {
            FibreDesk x = new FibreDesk(1);
            Due.due("slice(" + n + ")", x.slice(n), true);
            for (int none : new int[] {MIN, -1, 0, 9, MAX}) {
                Due.due("slice(" + none + ")", x.slice(none), false);
            }
            dueTurns(x, n);
        }
        dueTurns(new FibreDesk(1), 4);
    }

    /** Two fibres that never end take turns of n instructions. */
    private static void dueTurns(FibreDesk x, int n) {
        Op.program(x, 0, Op.op(Op.JUMP, 0));
        x.start(0, 0);
        x.start(0, 0);
        for (int i = 0; i < 3 * n; i++) {
            Due.due("run(1)", x.run(1), 1);
            boolean atEnd = i % n == n - 1;
            int turn = i / n % 2;
            Due.due("slice " + n + ", tick " + i, x.carrier(0), atEnd ? -1 : turn);
            Due.due("slice " + n + ", first of the row in tick " + i, x.row(0), 1 - turn);
        }
    }

    private static void sliceFromNowOn() {
        FibreDesk x = new FibreDesk(1);
        x.slice(8);
        Op.program(x, 0, Op.op(Op.JUMP, 0));
        x.start(0, 0);
        x.start(0, 0);
        x.run(3);
        x.slice(2);
        Due.due("still ON", x.carrier(0), 0);
        x.run(1);
        Op.dueRow(x, "more than the slice is done", 1, 0);
        x.run(1);
        Due.due("counted anew", x.carrier(0), 1);
        x.slice(3);
        x.run(1);
        Due.due("a longer slice", x.carrier(0), 1);
        x.run(1);
        Op.dueRow(x, "three are done", 0, 1);
    }
}

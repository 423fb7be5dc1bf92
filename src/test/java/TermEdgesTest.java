/**
 * The edges of the instructions that stand under "Terms", but for those of channels: registers, jumps, the END behind
 * the last instruction, SLEEP, START (with promise 16), JOIN, a TICK's order and the SLICE.
 */
public final class TermEdgesTest {
    private static final int MIN = Integer.MIN_VALUE, MAX = Integer.MAX_VALUE, NOTHING = -1000000;
    private static final int READY = 1, ON = 2, WAITING = 3, SLEEPING = 4, DONE = 5, FAILED = 6;

    public static void main(String[] args) {
        addWrapsAround();
        zeroOfZeroAlone();
        jumpToEachTarget();
        jumpToItself();
        endBehindTheLastByGoingOn();
        endBehindTheLastFromTheRow();
        endBehindTheLastByJump();
        endBehindTwelve();
        sleepModuloThirtyTwo();
        sleepAtLeastOne();
        startWithoutRoom();
        startIntoTheLastRoom();
        startOfAnEmptyProgram();
        startTakesTheLeastNumber();
        startSetsRegistersAndGoesToTheRowsEnd();
        startOfItsOwnProgram();
        joinOfADoneOne();
        joinOfAFailedOne();
        joinOfNone();
        joinOfItself();
        joinOfOneAtWork();
        joinersInTheOrderOfTheirNumbers();
        joinersOfOneThatFails();
        joinerGoesToTheRowsEnd();
        joinTakesTheNumberOnce();
        tickTimeGrowsFirst();
        tickSleepersBeforeCarriers();
        tickSleepersInTheOrderOfTheirNumbers();
        tickCarriersFromZeroOn();
        tickCarrierKeepsItsFibre();
        tickLaterCarrierSeesWhatEarlierOneDid();
        sliceOfOneAndOfEight();
        sliceEndsAtAWait();
        sliceEndsAtASleep();
        sliceEndsAtAnEnd();
        sliceEndsAtAFailure();
        sliceEndsAtAYield();
        sliceBeginsAnew();
        sliceOnEachCarrier();
        sliceChangedOnTheWay();
        yieldOfTheOnlyOne();
        Due.end();
    }

    private static FibreDesk desk(int carriers, int[]... rows) {
        FibreDesk x = new FibreDesk(carriers);
        Op.program(x, 0, rows);
        return x;
    }

    /** "three REGISTERS 0 .. 2, ints". */
    private static void addWrapsAround() {
        int[][] sums = {{MAX, 1, MIN}, {MIN, -1, MAX}, {MAX, MAX, -2}, {MIN, MIN, 0}, {5, -5, 0}, {MAX, MIN, -1}};
        for (int[] sum : sums) {
            FibreDesk x = desk(1, Op.op(Op.SET, 2, sum[1]), Op.op(Op.ADD, 0, 2));
            x.start(0, sum[0]);
            x.run(9);
            Due.due(sum[0] + " + " + sum[1], x.of(0, 0), sum[2]);
            Due.due("the other one stays", x.of(0, 2), sum[1]);
        }
        FibreDesk x = desk(1, Op.op(Op.ADD, 0, 0));
        x.start(0, 1 << 30);
        x.run(9);
        Due.due("a register added to itself", x.of(0, 0), MIN);
    }

    /** "ZERO: if r is 0 jump to b". */
    private static void zeroOfZeroAlone() {
        for (int v : new int[] {MIN, -1, 0, 1, 32, 256, 65536, MAX}) {
            FibreDesk x = desk(1, Op.op(Op.ZERO, 0, 5), Op.op(Op.JUMP, 1));
            x.start(0, v);
            x.run(1);
            Due.due("next, register " + v, x.of(0, 3), v == 0 ? 5 : 1);
        }
        for (int target = 0; target <= 12; target++) {
            FibreDesk x = desk(1, Op.op(Op.ZERO, 2, target));
            x.start(0, 7);
            x.run(1);
            Due.due("next, target " + target, x.of(0, 3), target);
            Due.due("state(0)", x.state(0), ON);
        }
    }

    /** "JUMP to a". */
    private static void jumpToEachTarget() {
        for (int target = 1; target <= 12; target++) {
            FibreDesk x = new FibreDesk(1);
            x.code(Op.JUMP, target, 0, 0);
            for (int i = 1; i < 12; i++) {
                x.code(Op.OUT, 0, 0, 0);
            }
            x.program(0);
            x.start(0, 3);
            Due.due("the JUMP, those from its target on, the END", x.run(50), 14 - target);
            Due.due("out(-1)", x.out(-1), 12 - target);
        }
    }

    private static void jumpToItself() {
        FibreDesk x = desk(1, Op.op(Op.JUMP, 0));
        x.start(0, 3);
        Due.due("run(2000)", x.run(2000), 2000);
        Due.due("of(0, 3)", x.of(0, 3), 0);
        Due.due("state(0), its slice is done", x.state(0), READY);
    }

    /** "one that comes there (by .. going on) is still READY or ON, and does that END as its next instruction". */
    private static void endBehindTheLastByGoingOn() {
        for (int length = 1; length <= 12; length++) {
            FibreDesk x = new FibreDesk(1);
            x.slice(8);
            for (int i = 0; i < length; i++) {
                x.code(Op.SET, 1, i, 0);
            }
            x.program(0);
            x.start(0, 0);
            Due.due("all of " + length, x.run(length), length);
            Due.due("still ON, or READY if the slice is done", x.state(0), length == 8 ? READY : ON);
            Due.due("of(0, 3)", x.of(0, 3), length);
            Due.due("the END counts", x.run(9), 1);
            Due.due("DONE", x.state(0), DONE);
            Due.due("of(0, 3)", x.of(0, 3), length);
            Due.due("time()", x.time(), length + 1);
        }
    }

    private static void endBehindTheLastFromTheRow() {
        int[][] lasts = {{Op.YIELD}, {Op.SLEEP, 0}, {Op.RECEIVE, 0, 1}, {Op.JOIN, 1, 1}};
        int[] states = {READY, SLEEPING, WAITING, WAITING};
        for (int i = 0; i < lasts.length; i++) {
            FibreDesk x = desk(1, Op.op(Op.SET, 1, 1), lasts[i]);
            Op.program(x, 1, Op.op(Op.SEND, 0, 0), Op.op(Op.END));
            x.start(0, 2);
            x.run(1);
            x.start(1, 7);
            x.run(1);
            Due.due("behind op " + lasts[i][0], x.state(0), states[i]);
            Due.due("of(0, 3)", x.of(0, 3), states[i] == WAITING ? 1 : 2);
            x.run(30);
            Due.due("where it ended", x.of(0, 3), lasts[i][0] == Op.JOIN ? 1 : 2);
            Due.due("state(0)", x.state(0), lasts[i][0] == Op.JOIN ? WAITING : DONE);
        }
        FibreDesk x = desk(1, Op.op(Op.JUMP, 1));
        x.slice(1);
        Op.program(x, 1, Op.op(Op.JUMP, 0));
        x.start(0, 0);
        x.start(1, 0);
        x.run(1);
        Op.dueRow(x, "it stands in the row before its END", 1, 0);
        x.run(1);
        Due.due("still READY", x.state(0), READY);
        Due.due("of(0, 3)", x.of(0, 3), 1);
        x.run(1);
        Due.due("DONE", x.state(0), DONE);
    }

    /** "Behind the last instruction all instructions up to number 12 are END: one that comes there (by a jump". */
    private static void endBehindTheLastByJump() {
        for (int length = 1; length <= 12; length++) {
            for (int target = length; target <= 12; target++) {
                FibreDesk x = new FibreDesk(1);
                x.code(Op.JUMP, target, 0, 0);
                for (int i = 1; i < length; i++) {
                    x.code(Op.OUT, 0, 0, 0);
                }
                x.program(0);
                x.start(0, 5);
                Due.due("JUMP", x.run(1), 1);
                Due.due("state(0)", x.state(0), ON);
                Due.due("of(0, 3)", x.of(0, 3), target);
                Due.due("END", x.run(9), 1);
                Due.due("state(0)", x.state(0), DONE);
                Due.due("of(0, 3)", x.of(0, 3), target);
                Due.due("out(-1)", x.out(-1), 0);
            }
        }
    }

    /** "a PROGRAM 0 .. 5 of at most 12 instructions": the last of them is done, and behind it is number 12. */
    private static void endBehindTwelve() {
        for (int p = 0; p < 6; p++) {
            FibreDesk x = new FibreDesk(1);
            for (int other = 0; other < 6; other++) {
                for (int i = 0; i < 12; i++) {
                    x.code(i == 11 ? Op.OUT : Op.YIELD, 0, 0, 0);
                }
                Due.due("program", x.program(other), 12);
            }
            x.start(p, 60 + p);
            Due.due("run(50)", x.run(50), 13);
            Op.dueOut(x, "the twelfth alone", 60 + p);
            Due.due("of(0, 3)", x.of(0, 3), 12);
        }
    }

    private static void dueSleep(int register, int ticks) {
        FibreDesk x = desk(1, Op.op(Op.SLEEP, 0), Op.op(Op.JUMP, 1));
        x.start(0, register);
        x.run(1);
        Due.due("SLEEPING for " + register, x.state(0), SLEEPING);
        Due.due("ticks left of " + register, x.of(0, 5), ticks);
        Due.due("it does nothing", x.run(ticks - 1), 0);
        Due.due("SLEEPING to the last", x.state(0), SLEEPING);
        Due.due("it goes on", x.run(1), 1);
        Due.due("ON", x.state(0), ON);
    }

    /** "SLEEP for register r modulo 32 ticks (its lowest five bits)". */
    private static void sleepModuloThirtyTwo() {
        int[][] registerAndTicks = {{1, 1}, {2, 2}, {15, 15}, {16, 16}, {30, 30}, {31, 31}, {33, 1}, {34, 2}, {63, 31},
            {65, 1}, {1023, 31}, {-1, 31}, {-2, 30}, {-30, 2}, {-31, 1}, {-33, 31}, {MAX, 31}, {MIN + 5, 5}};
        for (int[] pair : registerAndTicks) {
            dueSleep(pair[0], pair[1]);
        }
    }

    /** "at least 1". */
    private static void sleepAtLeastOne() {
        for (int register : new int[] {0, 32, 64, 1024, -32, -64, MIN}) {
            dueSleep(register, 1);
        }
    }

    /** "r becomes its number, or -1 if there is no room": the starter and eleven that wait. */
    private static FibreDesk deskWithStarter(int others) {
        FibreDesk x = desk(1, Op.op(Op.SET, 1, 40), Op.op(Op.START, 1, 1), Op.op(Op.JUMP, 2));
        Op.program(x, 1, Op.op(Op.RECEIVE, 0, 0));
        for (int f = 0; f < others; f++) {
            x.start(1, f);
        }
        x.run(50);
        Due.due("the starter", x.start(0, 9), others);
        return x;
    }

    private static void startWithoutRoom() {
        FibreDesk x = deskWithStarter(11);
        x.run(2);
        Due.due("r", x.of(11, 1), -1);
        Due.due("its other registers", x.of(11, 0), 9);
        Due.due("it goes on", x.of(11, 3), 2);
        Due.due("ON", x.state(11), ON);
        Op.dueRow(x, "no new one");
        for (int f = 0; f < 11; f++) {
            Due.due("state(" + f + ")", x.state(f), WAITING);
            Due.due("of(" + f + ", 0)", x.of(f, 0), f);
        }
    }

    private static void startIntoTheLastRoom() {
        FibreDesk x = deskWithStarter(10);
        x.run(2);
        Due.due("r", x.of(10, 1), 11);
        Due.due("register 0 of the new one", x.of(11, 0), 40);
        Op.dueRow(x, "the new one", 11);
    }

    /** "or the program is empty". */
    private static void startOfAnEmptyProgram() {
        for (int p = 1; p < 6; p++) {
            FibreDesk x = desk(1, Op.op(Op.SET, 2, 7), Op.op(Op.START, p, 2), Op.op(Op.JUMP, 2));
            x.code(Op.OUT, 0, 0, 0);
            x.start(0, 9);
            x.run(2);
            Due.due("r, program " + p, x.of(0, 2), -1);
            Due.due("register 0", x.of(0, 0), 9);
            Due.due("it goes on", x.of(0, 3), 2);
            Due.due("state(1)", x.state(1), 0);
            Op.dueRow(x, "no new one");
        }
    }

    /** 16: "START makes a fibre as start() does: the least number that is none, DONE or FAILED". */
    private static void startTakesTheLeastNumber() {
        FibreDesk x = desk(1, Op.op(Op.START, 1, 0), Op.op(Op.OUT, 0), Op.op(Op.START, 1, 0), Op.op(Op.OUT, 0),
                Op.op(Op.START, 1, 0), Op.op(Op.OUT, 0), Op.op(Op.START, 1, 0), Op.op(Op.OUT, 0), Op.op(Op.JUMP, 8));
        Op.program(x, 1, Op.op(Op.RECEIVE, 0, 0));
        Op.program(x, 2, Op.op(Op.END));
        Op.program(x, 3, Op.op(Op.CLOSE, 3), Op.op(Op.SEND, 3, 0));
        for (int p : new int[] {1, 3, 1, 2, 1, 1, 3, 1}) {
            x.start(p, 0);
        }
        x.run(50);
        int[] states = {WAITING, FAILED, WAITING, DONE, WAITING, WAITING, FAILED, WAITING, 0};
        for (int f = 0; f < states.length; f++) {
            Due.due("state(" + f + ")", x.state(f), states[f]);
        }
        Due.due("the starter", x.start(0, 0), 1);
        x.run(50);
        Op.dueOut(x, "each the least then", 3, 6, 8, 9);
    }

    /** 16: "its other registers 0, at the end of the row". */
    private static void startSetsRegistersAndGoesToTheRowsEnd() {
        FibreDesk x = desk(1, Op.op(Op.SET, 1, 4), Op.op(Op.SET, 2, 5), Op.op(Op.JUMP, 6));
        Op.program(x, 1, Op.op(Op.SET, 2, MIN), Op.op(Op.YIELD), Op.op(Op.START, 0, 2), Op.op(Op.JUMP, 3));
        Op.program(x, 2, Op.op(Op.JUMP, 0));
        x.start(0, 3);
        x.start(1, 8);
        x.start(2, 0);
        x.start(2, 0);
        x.run(14);
        Op.dueRow(x, "the starter is next", 1, 2, 3);
        int[] before = {3, 4, 5, 6, 0};
        Due.due("state(0)", x.state(0), DONE);
        for (int what = 0; what < 5; what++) {
            Due.due("of(0, " + what + "), DONE", x.of(0, what), before[what]);
        }
        x.run(1);
        Op.dueRow(x, "behind the READY ones", 2, 3, 0);
        Due.due("its number", x.of(1, 2), 0);
        int[] due = {MIN, 0, 0, 0, 0};
        for (int what = 0; what < 5; what++) {
            Due.due("of(0, " + what + "), READY", x.of(0, what), due[what]);
        }
    }

    private static void startOfItsOwnProgram() {
        FibreDesk x = desk(1, Op.op(Op.START, 0, 0), Op.op(Op.RECEIVE, 0, 1));
        x.start(0, 5);
        Due.due("each starts the next and waits, the last finds no room", x.run(2000), 24);
        for (int f = 0; f < 12; f++) {
            Due.due("state(" + f + ")", x.state(f), WAITING);
            Due.due("of(" + f + ", 0)", x.of(f, 0), f == 11 ? -1 : f + 1);
        }
    }

    /** A desk with one fibre, 0, of what it says, and one, 1, that sleeps and then joins it. */
    private static FibreDesk deskWithJoiner(int[]... rows) {
        FibreDesk x = desk(1, rows);
        Op.program(x, 5, Op.op(Op.SET, 1, 20), Op.op(Op.SLEEP, 1), Op.op(Op.JOIN, 0, 2), Op.op(Op.JUMP, 3));
        return x;
    }

    private static void dueJoined(String where, FibreDesk x, int joiner, int number) {
        Due.due(where + ": it goes on", x.state(joiner) == ON || x.state(joiner) == READY, true);
        Due.due(where + ": behind its JOIN", x.of(joiner, 3), 3);
        Due.due(where + ": what it got", x.of(joiner, 2), number);
    }

    /** "JOIN: of a fibre that is DONE, its register 0". */
    private static void joinOfADoneOne() {
        for (int v : new int[] {MIN, -1, 0, NOTHING, MAX}) {
            FibreDesk x = deskWithJoiner(Op.op(Op.SET, 0, v), Op.op(Op.SET, 1, 77));
            x.start(0, 5);
            x.start(5, 0);
            x.run(60);
            Due.due("DONE", x.state(0), DONE);
            dueJoined("DONE with " + v, x, 1, v);
        }
    }

    /** "that is FAILED .. NOTHING". */
    private static void joinOfAFailedOne() {
        FibreDesk x = deskWithJoiner(Op.op(Op.CLOSE, 3), Op.op(Op.SEND, 3, 0));
        x.start(0, 5);
        x.start(5, 0);
        x.run(60);
        Due.due("FAILED", x.state(0), FAILED);
        dueJoined("FAILED", x, 1, NOTHING);
    }

    /** "or is none .. NOTHING". */
    private static void joinOfNone() {
        for (int number : new int[] {MIN, -2, -1, 1, 2, 11, 12, 13, 16, 1 << 20, MAX}) {
            FibreDesk x = deskWithJoiner(Op.op(Op.END));
            x.start(5, number);
            x.run(60);
            dueJoined("JOIN of " + number, x, 0, NOTHING);
        }
    }

    /** "or is the fibre itself, NOTHING". */
    private static void joinOfItself() {
        for (int number = 0; number < 12; number++) {
            FibreDesk x = deskWithJoiner(Op.op(Op.RECEIVE, 0, 0));
            for (int f = 0; f < number; f++) {
                x.start(0, 0);
            }
            x.start(5, number);
            x.run(60);
            dueJoined("JOIN of itself, " + number, x, number, NOTHING);
        }
    }

    /** "else the fibre waits for that end". */
    private static void joinOfOneAtWork() {
        int[][] atWork = {{Op.JUMP, 0}, {Op.SLEEP, 1}, {Op.RECEIVE, 0, 1}, {Op.SEND, 0, 1}, {Op.JOIN, 0, 1}};
        for (int carriers = 1; carriers <= 2; carriers++) {
            for (int[] row : atWork) {
                FibreDesk x = desk(carriers, Op.op(Op.SET, 1, 31), row, Op.op(Op.JUMP, 1));
                Op.program(x, 1, Op.op(Op.SET, 1, 0), Op.op(Op.JOIN, 1, 2));
                x.start(0, 1);
                x.start(1, 8);
                x.run(30);
                Due.due("WAITING, the other one is at op " + row[0], x.state(1), WAITING);
                Due.due("at its JOIN", x.of(1, 3), 1);
                Due.due("it has got nothing yet", x.of(1, 2), 0);
                for (int c = 0; c < 4; c++) {
                    boolean other = c == 0 && (row[0] == Op.RECEIVE || row[0] == Op.SEND);
                    Due.due("waits(" + c + ", -1)", x.waits(c, -1), other ? 1 : 0);
                }
            }
        }
        FibreDesk x = desk(1, Op.op(Op.JOIN, 0, 2));
        Op.program(x, 1, Op.op(Op.SET, 0, 66));
        x.start(0, 11);
        for (int f = 1; f < 11; f++) {
            x.start(0, f - 1);
        }
        x.start(1, 0);
        Due.due("eleven JOINs, SET, and twelve ENDs", x.run(500), 24);
        Due.due("from the last number", x.of(0, 2), 66);
        Due.due("register 0 of the joiner", x.of(1, 2), 11);
        Due.due("and so on", x.of(10, 2), 8);
    }

    /** "gives its register 0 .. to all that wait for it, in the order of their numbers". */
    private static void joinersInTheOrderOfTheirNumbers() {
        FibreDesk x = desk(1, Op.op(Op.SLEEP, 0), Op.op(Op.SET, 0, 31));
        Op.program(x, 1, Op.op(Op.SLEEP, 0), Op.op(Op.SET, 1, 4), Op.op(Op.JOIN, 1, 2));
        x.start(1, 12);
        x.start(1, 9);
        x.start(1, 6);
        x.start(1, 3);
        x.start(0, 30);
        x.start(1, 1);
        x.run(35);
        for (int f : new int[] {0, 1, 2, 3, 5}) {
            Due.due("state(" + f + ")", x.state(f), WAITING);
        }
        x.run(1);
        Due.due("it ended", x.state(4), DONE);
        Op.dueRow(x, "not in the order in which they began to wait", 0, 1, 2, 3, 5);
        for (int f : new int[] {0, 1, 2, 3, 5}) {
            Due.due("of(" + f + ", 2)", x.of(f, 2), 31);
            Due.due("of(" + f + ", 3)", x.of(f, 3), 3);
        }
    }

    /** "(or NOTHING, if it FAILS)". */
    private static void joinersOfOneThatFails() {
        for (boolean closedBefore : new boolean[] {true, false}) {
            FibreDesk x = desk(1, Op.op(Op.SLEEP, 0), Op.op(Op.SEND, 0, 0));
            Op.program(x, 1, Op.op(Op.JOIN, 1, 2), Op.op(Op.JUMP, 1));
            Op.program(x, 2, Op.op(Op.SLEEP, 0), Op.op(Op.CLOSE, 0));
            x.start(0, 20);
            x.start(1, 5);
            x.start(1, 6);
            x.start(2, closedBefore ? 10 : 30);
            x.run(80);
            Due.due("FAILED", x.state(0), FAILED);
            Due.due("of(1, 2)", x.of(1, 2), NOTHING);
            Due.due("of(2, 2)", x.of(2, 2), NOTHING);
            Due.due("of(1, 0) stays", x.of(1, 0), 5);
            Due.due("of(1, 3)", x.of(1, 3), 1);
        }
    }

    /** "Whoever waited and got what it waited for goes to the end of the ROW, and goes on behind its instruction". */
    private static void joinerGoesToTheRowsEnd() {
        FibreDesk x = desk(1, Op.op(Op.YIELD), Op.op(Op.END));
        Op.program(x, 1, Op.op(Op.JOIN, 1, 2), Op.op(Op.OUT, 2));
        Op.program(x, 2, Op.op(Op.JUMP, 0));
        x.slice(1);
        x.start(0, 8);
        x.start(1, 0);
        x.start(2, 0);
        x.run(3);
        Op.dueRow(x, "the joiner waits", 0, 2);
        x.run(1);
        Op.dueRow(x, "behind the READY one", 2, 1);
        Due.due("READY", x.state(1), READY);
        Due.due("of(1, 3)", x.of(1, 3), 1);
    }

    /** A second end of the same number is none of the joiner's. */
    private static void joinTakesTheNumberOnce() {
        FibreDesk x = desk(1, Op.op(Op.END));
        Op.program(x, 1, Op.op(Op.JOIN, 1, 2), Op.op(Op.RECEIVE, 0, 1));
        x.start(0, 8);
        x.start(1, 0);
        x.run(9);
        Due.due("got", x.of(1, 2), 8);
        Due.due("waits at the channel", x.state(1), WAITING);
        x.start(0, 9);
        x.run(9);
        Due.due("DONE again", x.state(0), DONE);
        Due.due("still WAITING", x.state(1), WAITING);
        Due.due("as it was", x.of(1, 2), 8);
        FibreDesk y = desk(1, Op.op(Op.SLEEP, 0), Op.op(Op.END));
        Op.program(y, 1, Op.op(Op.JOIN, 1, 2), Op.op(Op.RECEIVE, 0, 1));
        y.start(0, 8);
        y.start(1, 0);
        y.run(30);
        Due.due("y: it waited, and got", y.of(1, 2), 8);
        y.start(0, 9);
        y.run(30);
        Due.due("y: still WAITING", y.state(1), WAITING);
        Due.due("y: as it was", y.of(1, 2), 8);
        Op.dueWaits(y, "y", 0, 1);
    }

    /** "A TICK: time grows by 1". */
    private static void tickTimeGrowsFirst() {
        FibreDesk x = desk(3, Op.op(Op.SLEEP, 0), Op.op(Op.JUMP, 1));
        x.start(0, 1);
        Due.due("SLEEP alone, whatever carriers are free", x.run(1), 1);
        Due.due("time()", x.time(), 1);
        Due.due("a tick is left", x.of(0, 5), 1);
        Due.due("run(1)", x.run(1), 1);
        Due.due("time()", x.time(), 2);
        Due.due("it is ON in the tick in which it wakes", x.carrier(0), 0);
    }

    /** "those that sleep until then go to the end of the row .. then each carrier". */
    private static void tickSleepersBeforeCarriers() {
        FibreDesk x = desk(1, Op.op(Op.SLEEP, 0), Op.op(Op.JUMP, 1));
        Op.program(x, 1, Op.op(Op.JUMP, 0));
        x.slice(1);
        x.start(0, 3);
        x.start(1, 0);
        x.start(1, 0);
        x.run(3);
        Op.dueRow(x, "before", 1, 2);
        Due.due("of(0, 5)", x.of(0, 5), 1);
        x.run(1);
        Op.dueRow(x, "behind the READY one, before the one that leaves the carrier", 2, 0, 1);
    }

    /** "in the order of their numbers". */
    private static void tickSleepersInTheOrderOfTheirNumbers() {
        FibreDesk x = desk(1, Op.op(Op.SLEEP, 0), Op.op(Op.JUMP, 1));
        Op.program(x, 1, Op.op(Op.JUMP, 0));
        x.slice(8);
        for (int v : new int[] {9, 8, 7, 6, 6}) {
            x.start(0, v);
        }
        x.start(1, 0);
        x.start(1, 0);
        x.run(9);
        Op.dueRow(x, "before", 6);
        x.run(1);
        Op.dueRow(x, "four wake in tick 10, one sleeps on", 6, 0, 1, 2, 3);
        Due.due("state(4)", x.state(4), SLEEPING);
        Due.due("of(4, 5)", x.of(4, 5), 1);
        x.run(1);
        Op.dueRow(x, "the fifth in tick 11", 6, 0, 1, 2, 3, 4);
    }

    /** "then each carrier, from 0 on: if no fibre is ON it, the first one of the row is from now on". */
    private static void tickCarriersFromZeroOn() {
        FibreDesk x = desk(3, Op.op(Op.OUT, 0), Op.op(Op.JUMP, 0));
        for (int v = 50; v < 55; v++) {
            x.start(0, v);
        }
        Due.due("run(1)", x.run(1), 3);
        Op.dueOut(x, "in the carriers' order", 50, 51, 52);
        for (int k = 0; k < 3; k++) {
            Due.due("carrier(" + k + ")", x.carrier(k), k);
        }
        Op.dueRow(x, "the others", 3, 4);
        FibreDesk y = desk(3, Op.op(Op.OUT, 0), Op.op(Op.JUMP, 0));
        y.start(0, 50);
        Due.due("an empty carrier does nothing", y.run(1), 1);
        Due.due("carrier(0)", y.carrier(0), 0);
        Due.due("carrier(1)", y.carrier(1), -1);
        y.start(0, 51);
        y.run(1);
        Due.due("the next free one", y.carrier(1), 1);
    }

    /** "It stays ON it unless". */
    private static void tickCarrierKeepsItsFibre() {
        FibreDesk x = desk(2, Op.op(Op.SET, 1, 1), Op.op(Op.SET, 1, 2), Op.op(Op.SLEEP, 1), Op.op(Op.JUMP, 3));
        Op.program(x, 1, Op.op(Op.JUMP, 0));
        x.slice(8);
        x.start(0, 0);
        x.start(1, 0);
        x.start(1, 0);
        x.run(2);
        Due.due("carrier(0)", x.carrier(0), 0);
        Due.due("carrier(1)", x.carrier(1), 1);
        Op.dueRow(x, "one is READY", 2);
        x.run(1);
        Due.due("it sleeps", x.carrier(0), -1);
        Op.dueRow(x, "its carrier takes another only in the next tick", 2);
        x.run(1);
        Due.due("carrier(0)", x.carrier(0), 2);
        Due.due("carrier(1)", x.carrier(1), 1);
    }

    private static void tickLaterCarrierSeesWhatEarlierOneDid() {
        FibreDesk x = desk(2, Op.op(Op.RECEIVE, 0, 1), Op.op(Op.OUT, 1), Op.op(Op.JUMP, 2));
        Op.program(x, 1, Op.op(Op.SEND, 0, 0), Op.op(Op.JUMP, 1));
        x.start(0, 0);
        x.run(5);
        x.start(1, 70);
        Due.due("SEND on carrier 0, OUT on carrier 1", x.run(1), 2);
        Op.dueOut(x, "in the same tick", 70);
        Due.due("carrier(1)", x.carrier(1), 0);
        FibreDesk y = desk(2, Op.op(Op.YIELD), Op.op(Op.CLOSE, 0));
        Op.program(y, 1, Op.op(Op.SEND, 0, 0));
        y.start(0, 0);
        y.start(1, 0);
        y.run(1);
        Due.due("y: it waits, the other yielded", y.state(1), WAITING);
        y.run(1);
        Due.due("y: FAILED in the tick of the CLOSE", y.state(1), FAILED);
        FibreDesk z = desk(2, Op.op(Op.RECEIVE, 0, 1), Op.op(Op.JUMP, 1));
        Op.program(z, 1, Op.op(Op.SEND, 0, 0), Op.op(Op.JUMP, 1));
        z.start(0, 0);
        z.start(1, 3);
        Due.due("z: SEND on carrier 1", z.run(1), 2);
        Op.dueRow(z, "z: carrier 0 had its turn", 0);
        z.run(1);
        Due.due("z: carrier(0)", z.carrier(0), 0);
    }

    /** "or has done SLICE instructions there: then it goes to the end of the row". */
    private static void sliceOfOneAndOfEight() {
        FibreDesk x = desk(1, Op.op(Op.JUMP, 0));
        x.slice(1);
        x.start(0, 0);
        x.start(0, 0);
        x.run(1);
        Op.dueRow(x, "one", 1, 0);
        x.run(1);
        Op.dueRow(x, "one", 0, 1);
        x.slice(8);
        x.run(7);
        Due.due("seven", x.carrier(0), 0);
        x.run(1);
        Op.dueRow(x, "eight", 1, 0);
        x.run(7);
        Due.due("seven", x.carrier(0), 1);
    }

    /** One of the row more, and a fibre whose second instruction, the last of its slice, is this. */
    private static FibreDesk deskAtSlicesEnd(int[] last) {
        FibreDesk x = desk(1, Op.op(Op.SET, 1, 5), last, Op.op(Op.JUMP, 2));
        Op.program(x, 1, Op.op(Op.JUMP, 0));
        x.slice(2);
        x.start(0, 1);
        x.start(1, 0);
        x.run(2);
        Due.due("carrier(0)", x.carrier(0), -1);
        return x;
    }

    private static void sliceEndsAtAWait() {
        for (int[] last : new int[][] {{Op.SEND, 0, 0}, {Op.RECEIVE, 0, 0}, {Op.CHOOSE, 0, 1, 0}, {Op.JOIN, 0, 0}}) {
            FibreDesk x = deskAtSlicesEnd(last);
            Due.due("WAITING at op " + last[0], x.state(0), WAITING);
            Due.due("at it", x.of(0, 3), 1);
            Op.dueRow(x, "not in the row", 1);
        }
    }

    private static void sliceEndsAtASleep() {
        FibreDesk x = deskAtSlicesEnd(Op.op(Op.SLEEP, 1));
        Due.due("SLEEPING", x.state(0), SLEEPING);
        Due.due("of(0, 5)", x.of(0, 5), 5);
        Op.dueRow(x, "not in the row", 1);
        x.run(4);
        Op.dueRow(x, "still not", 1);
        x.run(1);
        Op.dueRow(x, "awake", 0);
    }

    private static void sliceEndsAtAnEnd() {
        FibreDesk x = deskAtSlicesEnd(Op.op(Op.END));
        Due.due("DONE", x.state(0), DONE);
        Op.dueRow(x, "not in the row", 1);
    }

    private static void sliceEndsAtAFailure() {
        FibreDesk x = desk(1, Op.op(Op.CLOSE, 2), Op.op(Op.SEND, 2, 0), Op.op(Op.JUMP, 2));
        x.slice(2);
        x.start(0, 1);
        x.start(0, 1);
        x.run(2);
        Due.due("FAILED", x.state(0), FAILED);
        Due.due("carrier(0)", x.carrier(0), -1);
        Op.dueRow(x, "not in the row", 1);
    }

    private static void sliceEndsAtAYield() {
        FibreDesk x = deskAtSlicesEnd(Op.op(Op.YIELD));
        Due.due("READY", x.state(0), READY);
        Op.dueRow(x, "once in the row", 1, 0);
        Due.due("of(0, 3)", x.of(0, 3), 2);
    }

    /** "has done SLICE instructions there": what it did before it left is not counted. */
    private static void sliceBeginsAnew() {
        int[][] leaves = {{Op.YIELD}, {Op.SLEEP, 2}, {Op.RECEIVE, 0, 1}};
        for (int[] leave : leaves) {
            FibreDesk x = desk(1, Op.op(Op.SET, 1, 5), Op.op(Op.SET, 1, 6), leave, Op.op(Op.JUMP, 3));
            Op.program(x, 1, Op.op(Op.SEND, 0, 0), Op.op(Op.RECEIVE, 3, 0));
            x.start(0, 0);
            x.run(3);
            x.start(1, 1);
            x.run(1);
            for (int i = 0; i < 9 && x.state(0) != ON; i++) {
                x.run(1);
            }
            Due.due("one done, behind op " + leave[0], x.carrier(0), 0);
            x.run(2);
            Due.due("three done", x.carrier(0), 0);
            x.run(1);
            Due.due("four done", x.carrier(0), -1);
        }
    }

    private static void sliceOnEachCarrier() {
        FibreDesk x = desk(3, Op.op(Op.JUMP, 0));
        x.slice(3);
        x.start(0, 0);
        x.run(1);
        x.start(0, 0);
        x.run(1);
        x.start(0, 0);
        x.start(0, 0);
        x.run(1);
        Due.due("the first has done three", x.carrier(0), -1);
        Due.due("carrier(1)", x.carrier(1), 1);
        Due.due("carrier(2)", x.carrier(2), 2);
        Op.dueRow(x, "behind the fourth", 3, 0);
        x.run(1);
        Due.due("carrier(0)", x.carrier(0), 3);
        Due.due("the second has done three", x.carrier(1), -1);
        Due.due("carrier(2)", x.carrier(2), 2);
        Op.dueRow(x, "behind the first", 0, 1);
    }

    /** 5: "of instructions from now on". */
    private static void sliceChangedOnTheWay() {
        FibreDesk x = desk(1, Op.op(Op.JUMP, 0));
        x.start(0, 0);
        x.start(0, 0);
        x.run(2);
        x.slice(6);
        x.run(3);
        Due.due("five done of six", x.carrier(0), 0);
        x.run(1);
        Op.dueRow(x, "six done", 1, 0);
        x.run(3);
        x.slice(4);
        Due.due("three done of four", x.carrier(0), 1);
        x.run(1);
        Op.dueRow(x, "four done", 0, 1);
        x.run(3);
        x.slice(1);
        Due.due("a shorter slice moves no one by itself", x.carrier(0), 0);
        x.run(1);
        Op.dueRow(x, "more than the slice are done", 1, 0);
    }

    /** "or YIELDS .. then it goes to the end of the row". */
    private static void yieldOfTheOnlyOne() {
        FibreDesk x = desk(1, Op.op(Op.YIELD), Op.op(Op.YIELD), Op.op(Op.JUMP, 2));
        x.start(0, 0);
        Due.due("run(1)", x.run(1), 1);
        Op.dueRow(x, "in the row", 0);
        Due.due("carrier(0)", x.carrier(0), -1);
        Due.due("of(0, 3)", x.of(0, 3), 1);
        x.start(0, 0);
        x.run(1);
        Op.dueRow(x, "at its end", 1, 0);
    }
}

/** Promises 6 to 11, 15 and 16: start, run, state, of, row, carrier, time, and START. */
public final class FibreTest {
    private static final int MIN = Integer.MIN_VALUE, MAX = Integer.MAX_VALUE;

    public static void main(String[] args) {
        start();
        twelveAtWork();
        leastNumberAgain();
        run();
        runOnThreeCarriers();
        runStops();
        runGoesOnForSleepers();
        state();
        of();
        jumps();
        arithmetic();
        sleep();
        sleepersInOrderOfNumbers();
        yieldOnTwoCarriers();
        sliceAndYieldTogether();
        carriersShareTheRow();
        startInstruction();
        startInstructionWithoutRoom();
        startedOneRunsInTheSameTick();
        Due.end();
    }

    private static void start() {
        FibreDesk x = new FibreDesk(1);
        Op.program(x, 5, Op.op(Op.END));
        for (int p : new int[] {MIN, -1, 6, MAX}) {
            Due.due("start(" + p + ", 0)", x.start(p, 0), -1);
        }
        Due.due("start(4, 0), an empty one", x.start(4, 0), -1);
        Due.due("start(5, MIN)", x.start(5, MIN), 0);
        Due.due("start(5, 7)", x.start(5, 7), 1);
        Due.due("of(0, 0)", x.of(0, 0), MIN);
        Due.due("of(1, 0)", x.of(1, 0), 7);
        for (int what = 1; what <= 3; what++) {
            Due.due("of(1, " + what + ")", x.of(1, what), 0);
        }
        Due.due("of(1, 4)", x.of(1, 4), 5);
        Due.due("state(1)", x.state(1), 1);
        Op.dueRow(x, "started", 0, 1);
    }

    private static void twelveAtWork() {
        FibreDesk x = new FibreDesk(3);
        Op.program(x, 0, Op.op(Op.RECEIVE, 0, 0));
        for (int f = 0; f < 12; f++) {
            Due.due("start", x.start(0, f), f);
        }
        Due.due("the thirteenth", x.start(0, 0), -1);
        Op.dueRow(x, "all", 0, 1, 2, 3, 4, 5, 6, 7, 8, 9, 10, 11);
        Due.due("run", x.run(2000), 12);
        Due.due("all wait after four ticks", x.time(), 4);
        Op.dueWaits(x, "all", 0, 0, 1, 2, 3, 4, 5, 6, 7, 8, 9, 10, 11);
        Due.due("the thirteenth, all WAITING", x.start(0, 0), -1);
    }

    private static void leastNumberAgain() {
        FibreDesk x = new FibreDesk(1);
        Op.program(x, 0, Op.op(Op.RECEIVE, 0, 0));
        Op.program(x, 1, Op.op(Op.SET, 1, 5), Op.op(Op.SET, 2, 6));
        Op.program(x, 2, Op.op(Op.CLOSE, 3), Op.op(Op.SEND, 3, 0));
        x.start(0, 0);
        x.start(1, 1);
        x.start(2, 2);
        x.start(0, 3);
        x.run(100);
        Due.due("DONE", x.state(1), 5);
        Due.due("FAILED", x.state(2), 6);
        Due.due("in the place of the DONE one", x.start(0, 9), 1);
        Due.due("of(1, 0)", x.of(1, 0), 9);
        Due.due("of(1, 1)", x.of(1, 1), 0);
        Due.due("of(1, 2)", x.of(1, 2), 0);
        Due.due("of(1, 3)", x.of(1, 3), 0);
        Due.due("of(1, 4)", x.of(1, 4), 0);
        Due.due("in the place of the FAILED one", x.start(0, 9), 2);
        Due.due("a new one", x.start(0, 9), 4);
        Op.dueRow(x, "again", 1, 2, 4);
    }

    private static void run() {
        FibreDesk x = new FibreDesk(1);
        for (int n : new int[] {MIN, -1, 2001, MAX}) {
            Due.due("run(" + n + ")", x.run(n), -1);
        }
        Due.due("run(2000) of nothing", x.run(2000), 0);
        Due.due("time()", x.time(), 0);
        Op.program(x, 0, Op.op(Op.JUMP, 0));
        x.start(0, 0);
        Due.due("run(0)", x.run(0), 0);
        Due.due("time()", x.time(), 0);
        Due.due("still READY", x.state(0), 1);
        Due.due("run(2000)", x.run(2000), 2000);
        Due.due("time()", x.time(), 2000);
        Due.due("run(10)", x.run(10), 10);
        Due.due("run(2001)", x.run(2001), -1);
        Due.due("time()", x.time(), 2010);
    }

    /** One whose slice is done on a carrier is taken by the next carrier in the same tick. */
    private static void runOnThreeCarriers() {
        FibreDesk x = new FibreDesk(3);
        Op.program(x, 0, Op.op(Op.JUMP, 0));
        x.start(0, 0);
        Due.due("run(3)", x.run(3), 3);
        Due.due("ON carrier 0", x.carrier(0), 0);
        Due.due("run(1)", x.run(1), 2);
        Due.due("no more ON carrier 0", x.carrier(0), -1);
        Due.due("ON carrier 1", x.carrier(1), 0);
        Due.due("three slices of four in ten ticks", x.run(6), 7);
        Op.dueRow(x, "behind the last carrier", 0);
        x.start(0, 0);
        x.start(0, 0);
        Due.due("run(2000) of three", x.run(2000), 6000);
    }

    private static void runStops() {
        FibreDesk x = new FibreDesk(1);
        Op.program(x, 0, Op.op(Op.END));
        x.start(0, 0);
        Due.due("run(5)", x.run(5), 1);
        Due.due("time()", x.time(), 1);
        Due.due("run(5), none at work", x.run(5), 0);
        Due.due("time()", x.time(), 1);
    }

    private static void runGoesOnForSleepers() {
        FibreDesk x = new FibreDesk(1);
        Op.program(x, 0, Op.op(Op.SLEEP, 0));
        x.start(0, 31);
        Due.due("run(10)", x.run(10), 1);
        Due.due("time()", x.time(), 10);
        Due.due("run(10), all sleep", x.run(10), 0);
        Due.due("time()", x.time(), 20);
        Due.due("run(100)", x.run(100), 1);
        Due.due("asleep in tick 1 until 32, and ended there", x.time(), 32);
    }

    private static void state() {
        FibreDesk x = new FibreDesk(1);
        for (int f : new int[] {MIN, -1, 12, MAX}) {
            Due.due("state(" + f + ")", x.state(f), -1);
            Due.due("of(" + f + ", 0)", x.of(f, 0), -1);
        }
        Op.program(x, 0, Op.op(Op.SET, 1, 3), Op.op(Op.SLEEP, 1), Op.op(Op.RECEIVE, 0, 2), Op.op(Op.SEND, 1, 2));
        Op.program(x, 1, Op.op(Op.SEND, 0, 0), Op.op(Op.CLOSE, 1));
        Due.due("none", x.state(0), 0);
        x.start(0, 0);
        Due.due("READY", x.state(0), 1);
        x.run(1);
        Due.due("ON", x.state(0), 2);
        x.run(1);
        Due.due("SLEEPING", x.state(0), 4);
        x.run(3);
        Due.due("WAITING", x.state(0), 3);
        x.start(1, 8);
        x.run(1);
        Due.due("READY again", x.state(0), 1);
        x.run(2);
        Due.due("DONE", x.state(1), 5);
        x.run(10);
        Due.due("FAILED", x.state(0), 6);
        Due.due("it FAILED at its SEND", x.of(0, 3), 3);
        Due.due("none is there", x.state(2), 0);
    }

    private static void of() {
        FibreDesk x = new FibreDesk(1);
        Op.program(x, 3, Op.op(Op.SET, 1, 6), Op.op(Op.SET, 2, -8), Op.op(Op.SLEEP, 1), Op.op(Op.RECEIVE, 2, 0),
                Op.op(Op.JUMP, 9));
        Op.program(x, 1, Op.op(Op.CLOSE, 2), Op.op(Op.END), Op.op(Op.END));
        x.start(3, 44);
        for (int what : new int[] {MIN, -1, 5, 6, MAX}) {
            Due.due("of(0, " + what + "), READY", x.of(0, what), -1);
        }
        x.run(3);
        Due.due("register 0", x.of(0, 0), 44);
        Due.due("register 1", x.of(0, 1), 6);
        Due.due("register 2", x.of(0, 2), -8);
        Due.due("next, SLEEPING", x.of(0, 3), 3);
        Due.due("program", x.of(0, 4), 3);
        for (int left = 6; left > 0; left--) {
            Due.due("ticks left", x.of(0, 5), left);
            x.run(1);
        }
        Due.due("it went on, and waits", x.state(0), 3);
        Due.due("of(0, 5), WAITING", x.of(0, 5), -1);
        Due.due("next, WAITING", x.of(0, 3), 3);
        x.start(1, 0);
        x.run(1);
        Due.due("next, READY", x.of(0, 3), 4);
        Due.due("what it got", x.of(0, 0), -1000000);
        x.run(1);
        Due.due("where the other one ended", x.of(1, 3), 1);
        x.run(1);
        Due.due("it came behind the last one", x.of(0, 3), 9);
        Due.due("and is ON", x.state(0), 2);
        Due.due("the END counts", x.run(10), 1);
        Due.due("DONE there", x.of(0, 3), 9);
        Due.due("of(0, 5), DONE", x.of(0, 5), -1);
        Due.due("of(2, 0), none", x.of(2, 0), -1);
    }

    private static void jumps() {
        FibreDesk x = new FibreDesk(1);
        Op.program(x, 0, Op.op(Op.ZERO, 0, 4), Op.op(Op.SET, 1, -1), Op.op(Op.ADD, 0, 1), Op.op(Op.JUMP, 0),
                Op.op(Op.OUT, 1), Op.op(Op.JUMP, 12));
        x.start(0, 3);
        Due.due("three rounds of four, then ZERO, OUT, JUMP and END", x.run(100), 16);
        Due.due("jumped to 12", x.of(0, 3), 12);
        Due.due("register 0", x.of(0, 0), 0);
        Op.dueOut(x, "counted down", -1);
        Op.program(x, 1, Op.op(Op.ZERO, 1, 12));
        Due.due("start", x.start(1, 1), 0);
        Due.due("ZERO and END", x.run(5), 2);
        Due.due("jumped to 12", x.of(0, 3), 12);
    }

    private static void arithmetic() {
        FibreDesk x = new FibreDesk(1);
        Op.program(x, 0, Op.op(Op.ADD, 0, 0), Op.op(Op.OUT, 0), Op.op(Op.SET, 2, MAX), Op.op(Op.ADD, 1, 2),
                Op.op(Op.ADD, 2, 0), Op.op(Op.OUT, 2), Op.op(Op.OUT, 1));
        x.start(0, MIN + 3);
        x.run(100);
        Op.dueOut(x, "wrap-around", 6, MIN + 5, MAX);
    }

    private static void sleep() {
        int[][] registerAndTicks = {{0, 1}, {1, 1}, {2, 2}, {31, 31}, {32, 1}, {33, 1}, {34, 2}, {-1, 31}, {-32, 1},
            {-30, 2}, {MIN, 1}, {MAX, 31}};
        for (int[] pair : registerAndTicks) {
            FibreDesk x = new FibreDesk(1);
            Op.program(x, 0, Op.op(Op.SLEEP, 0), Op.op(Op.OUT, 0));
            x.start(0, pair[0]);
            x.run(1);
            Due.due("sleep for " + pair[0], x.of(0, 5), pair[1]);
            Due.due("asleep", x.run(pair[1] - 1), 0);
            Due.due("SLEEPING", x.state(0), 4);
            Due.due("left", x.of(0, 5), 1);
            Due.due("awake", x.run(1), 1);
            Due.due("out", x.out(-1), 1);
        }
    }

    private static void sleepersInOrderOfNumbers() {
        FibreDesk x = new FibreDesk(1);
        x.slice(8);
        Op.program(x, 0, Op.op(Op.SLEEP, 0), Op.op(Op.JUMP, 1));
        Op.program(x, 1, Op.op(Op.JUMP, 0));
        x.start(0, 6);
        x.start(0, 5);
        x.start(0, 4);
        x.start(1, 0);
        x.start(1, 0);
        x.run(6);
        Op.dueRow(x, "before", 4);
        Due.due("carrier(0)", x.carrier(0), 3);
        x.run(1);
        Op.dueRow(x, "all awake in tick 7, behind the READY one", 4, 0, 1, 2);
    }

    private static void yieldOnTwoCarriers() {
        FibreDesk x = new FibreDesk(2);
        Op.program(x, 0, Op.op(Op.YIELD), Op.op(Op.YIELD), Op.op(Op.OUT, 0));
        x.start(0, 5);
        Due.due("both carriers in one tick", x.run(1), 2);
        Due.due("of(0, 3)", x.of(0, 3), 2);
        Op.dueRow(x, "it yielded twice", 0);
        x.run(1);
        Due.due("ON carrier 0", x.carrier(0), 0);
        Due.due("none ON carrier 1", x.carrier(1), -1);
        Op.dueOut(x, "one OUT", 5);
    }

    private static void sliceAndYieldTogether() {
        FibreDesk x = new FibreDesk(1);
        x.slice(1);
        Op.program(x, 0, Op.op(Op.YIELD), Op.op(Op.JUMP, 0));
        x.start(0, 0);
        x.start(0, 0);
        x.run(1);
        Op.dueRow(x, "once in the row", 1, 0);
        x.run(1);
        Op.dueRow(x, "once in the row", 0, 1);
    }

    private static void carriersShareTheRow() {
        FibreDesk x = new FibreDesk(3);
        x.slice(2);
        Op.program(x, 0, Op.op(Op.JUMP, 0));
        for (int i = 0; i < 5; i++) {
            x.start(0, 0);
        }
        x.run(1);
        Due.due("carrier(0)", x.carrier(0), 0);
        Due.due("carrier(1)", x.carrier(1), 1);
        Due.due("carrier(2)", x.carrier(2), 2);
        Op.dueRow(x, "the others", 3, 4);
        for (int k : new int[] {MIN, -1, 3, MAX}) {
            Due.due("carrier(" + k + ")", x.carrier(k), -1);
        }
        for (int k : new int[] {MIN, -2, 2, MAX}) {
            Due.due("row(" + k + ")", x.row(k), -1);
        }
        x.run(1);
        Op.dueRow(x, "all slices are done", 3, 4, 0, 1, 2);
        x.run(1);
        Due.due("carrier(0)", x.carrier(0), 3);
        Due.due("carrier(1)", x.carrier(1), 4);
        Due.due("carrier(2)", x.carrier(2), 0);
        Op.dueRow(x, "the others", 1, 2);
    }

    private static void startInstruction() {
        FibreDesk x = new FibreDesk(1);
        x.slice(3);
        Op.program(x, 0, Op.op(Op.SET, 2, 70), Op.op(Op.START, 1, 2), Op.op(Op.START, 2, 0), Op.op(Op.OUT, 0),
                Op.op(Op.OUT, 2));
        Op.program(x, 1, Op.op(Op.OUT, 0), Op.op(Op.JUMP, 0));
        x.start(0, 4);
        x.run(3);
        Op.dueRow(x, "the started one first, then the one whose slice is done", 1, 0);
        Due.due("its number", x.of(0, 2), 1);
        Due.due("-1 for an empty program", x.of(0, 0), -1);
        Due.due("register 0 of the new one", x.of(1, 0), 70);
        Due.due("register 1 of the new one", x.of(1, 1), 0);
        Due.due("program of the new one", x.of(1, 4), 1);
        x.run(5);
        Op.dueOut(x, "both", 70, 70, -1, 1);
    }

    private static void startInstructionWithoutRoom() {
        FibreDesk x = new FibreDesk(1);
        Op.program(x, 0, Op.op(Op.RECEIVE, 0, 0));
        Op.program(x, 1, Op.op(Op.SET, 1, 3), Op.op(Op.START, 0, 1), Op.op(Op.OUT, 1), Op.op(Op.JUMP, 0));
        Op.program(x, 2, Op.op(Op.SET, 1, 5), Op.op(Op.SET, 2, 6));
        x.start(0, 0);
        x.start(2, 0);
        for (int f = 2; f < 11; f++) {
            x.start(0, 0);
        }
        x.start(1, 0);
        x.run(200);
        Due.due("the DONE one's place is taken first", x.of(1, 4), 0);
        Due.due("its register 0", x.of(1, 0), 3);
        Due.due("its register 1", x.of(1, 1), 0);
        Due.due("its register 2", x.of(1, 2), 0);
        Due.due("the latest START had no room", x.out(0), -1);
    }

    private static void startedOneRunsInTheSameTick() {
        FibreDesk x = new FibreDesk(2);
        Op.program(x, 0, Op.op(Op.START, 1, 0));
        Op.program(x, 1, Op.op(Op.OUT, 0));
        x.start(0, 6);
        Due.due("run(1)", x.run(1), 2);
        Op.dueOut(x, "on carrier 1", 6);
        Due.due("carrier(1)", x.carrier(1), 1);
        Due.due("the two ENDs", x.run(9), 2);
        Due.due("time()", x.time(), 2);
    }
}

/**
 * Promises 8 to 14, the calls that only look: for each sentence that names an edge the first and the last that is
 * there, the first that is not on either side, and that no look changes anything.
 */
public final class LookEdgesTest {
    private static final int MIN = Integer.MIN_VALUE, MAX = Integer.MAX_VALUE, NOTHING = -1000000;
    private static final int READY = 1, ON = 2, WAITING = 3, SLEEPING = 4, DONE = 5, FAILED = 6;

    public static void main(String[] args) {
        stateOfNoSuchFibre();
        stateOfEach();
        ofNoSuchFibre();
        ofNoFibreThere();
        ofAnotherWhat();
        ticksLeftOfAnotherState();
        ticksLeftOfASleeper();
        nextOfOneThatWaits();
        nextOfOneThatEnded();
        nextOfOneThatFailed();
        nextBehindTheLast();
        registersOfOneThatEnded();
        rowOutside();
        rowFull();
        carrierWithoutFibre();
        noSuchCarrier();
        heldOfNoSuchChannel();
        heldOutside();
        heldCapacityOfAClosedOne();
        waitsOfNoSuchChannel();
        waitsOutside();
        waitsOfTwelve();
        outBeforeTheFirst();
        outOfTheSixteenth();
        outOutside();
        Due.end();
    }

    /** 8: "REFUSED if it is not 0 .. 11". */
    private static void stateOfNoSuchFibre() {
        for (int f : new int[] {MIN, -12, -1, 12, 13, MAX}) {
            Shown.dueUnchanged("state(" + f + ")", x -> x.state(f), -1);
        }
    }

    private static void stateOfEach() {
        Shown.dueUnchanged("state(3)", x -> x.state(3), FAILED);
        Shown.dueUnchanged("state(4)", x -> x.state(4), DONE);
        Shown.dueUnchanged("state(5)", x -> x.state(5), SLEEPING);
        Shown.dueUnchanged("state(6), it sends", x -> x.state(6), WAITING);
        Shown.dueUnchanged("state(7), it chooses", x -> x.state(7), WAITING);
        Shown.dueUnchanged("state(8), it joins", x -> x.state(8), WAITING);
        Shown.dueUnchanged("state(9)", x -> x.state(9), 0);
        FibreDesk x = new FibreDesk(1);
        Op.program(x, 0, Op.op(Op.JUMP, 0));
        for (int f = 0; f < 12; f++) {
            Due.due("state(" + f + "), not yet there", x.state(f), 0);
            x.start(0, 0);
            Due.due("state(" + f + ")", x.state(f), READY);
        }
        x.run(1);
        Due.due("state(0)", x.state(0), ON);
        Due.due("state(11)", x.state(11), READY);
    }

    /** 9: "REFUSED for .. no fibre there"; a number outside of 0 .. 11 is none. */
    private static void ofNoSuchFibre() {
        for (int f : new int[] {MIN, -1, 12, 13, MAX}) {
            for (int what = -1; what <= 6; what++) {
                int asked = what;
                Shown.dueUnchanged("of(" + f + ", " + what + ")", x -> x.of(f, asked), -1);
            }
        }
    }

    private static void ofNoFibreThere() {
        for (int f = 9; f < 12; f++) {
            int number = f;
            for (int what = -1; what <= 6; what++) {
                int asked = what;
                Shown.dueUnchanged("of(" + f + ", " + what + ")", x -> x.of(number, asked), -1);
            }
        }
        FibreDesk x = new FibreDesk(1);
        Op.program(x, 0, Op.op(Op.END));
        for (int f = 0; f < 12; f++) {
            for (int what = 0; what < 6; what++) {
                Due.due("of(" + f + ", " + what + "), none", x.of(f, what), -1);
            }
            x.start(0, 70 + f);
            Due.due("of(" + f + ", 0)", x.of(f, 0), 70 + f);
        }
    }

    /** 9: "REFUSED for another what". */
    private static void ofAnotherWhat() {
        for (int f = 0; f < 9; f++) {
            int number = f;
            for (int what : new int[] {MIN, -1, 6, 7, MAX}) {
                Shown.dueUnchanged("of(" + f + ", " + what + ")", x -> x.of(number, what), -1);
            }
        }
    }

    /** 9: "5: for a SLEEPING one .. REFUSED for another .. state". */
    private static void ticksLeftOfAnotherState() {
        for (int f : new int[] {0, 1, 2, 3, 4, 6, 7, 8}) {
            Shown.dueUnchanged("of(" + f + ", 5)", x -> x.of(f, 5), -1);
        }
        FibreDesk x = new FibreDesk(1);
        Op.program(x, 0, Op.op(Op.SLEEP, 0), Op.op(Op.JUMP, 1));
        x.start(0, 3);
        Due.due("READY", x.of(0, 5), -1);
        x.run(4);
        Due.due("awake and ON", x.of(0, 5), -1);
        Due.due("state(0)", x.state(0), ON);
    }

    /** 9: "how many ticks are left". */
    private static void ticksLeftOfASleeper() {
        FibreDesk x = new FibreDesk(1);
        Op.program(x, 0, Op.op(Op.SLEEP, 0));
        x.start(0, 31);
        x.run(1);
        for (int left = 31; left >= 1; left--) {
            Due.due("state(0)", x.state(0), SLEEPING);
            Due.due("of(0, 5)", x.of(0, 5), left);
            x.run(1);
        }
        Due.due("state(0)", x.state(0), DONE);
        Due.due("of(0, 5)", x.of(0, 5), -1);
    }

    /** 9: "3: the number of its next instruction (that at which it waits". */
    private static void nextOfOneThatWaits() {
        int[][] waits = {{Op.SEND, 0, 0}, {Op.RECEIVE, 0, 0}, {Op.CHOOSE, 0, 1, 0}, {Op.JOIN, 0, 0}};
        for (int[] at : waits) {
            for (int before : new int[] {0, 11}) {
                FibreDesk x = new FibreDesk(1);
                for (int i = 0; i < before; i++) {
                    x.code(Op.YIELD, 0, 0, 0);
                }
                x.code(at[0], at[1], at[2], 0);
                x.program(0);
                Op.program(x, 1, Op.op(Op.RECEIVE, 3, 0));
                x.start(0, 1);
                x.start(1, 0);
                x.run(50);
                Due.due("state(0), op " + at[0], x.state(0), WAITING);
                Due.due("of(0, 3), op " + at[0], x.of(0, 3), before);
            }
        }
    }

    /** 9: "ended": at its END. */
    private static void nextOfOneThatEnded() {
        for (int before : new int[] {0, 1, 11}) {
            FibreDesk x = new FibreDesk(1);
            for (int i = 0; i < before; i++) {
                x.code(Op.YIELD, 0, 0, 0);
            }
            x.code(Op.END, 0, 0, 0);
            x.program(0);
            x.start(0, 1);
            Due.due("run(50)", x.run(50), before + 1);
            Due.due("state(0)", x.state(0), DONE);
            Due.due("of(0, 3)", x.of(0, 3), before);
        }
    }

    /** 9: "or FAILED": at its SEND, be the channel closed before or while it waits. */
    private static void nextOfOneThatFailed() {
        for (boolean closedBefore : new boolean[] {true, false}) {
            FibreDesk x = new FibreDesk(1);
            Op.program(x, 0, Op.op(Op.YIELD), Op.op(Op.YIELD), Op.op(Op.SEND, 2, 0), Op.op(Op.END));
            Op.program(x, 1, Op.op(Op.CLOSE, 2));
            x.start(closedBefore ? 1 : 0, 0);
            x.run(50);
            x.start(closedBefore ? 0 : 1, 0);
            x.run(50);
            Due.due("state(0)", x.state(0), FAILED);
            Due.due("of(0, 3)", x.of(0, 3), 2);
            Due.due("of(0, 4)", x.of(0, 4), 0);
        }
    }

    /** 9: "behind the last one the number that it came to)". */
    private static void nextBehindTheLast() {
        for (int target = 1; target <= 12; target++) {
            FibreDesk x = new FibreDesk(1);
            Op.program(x, 0, Op.op(Op.JUMP, target));
            x.start(0, 0);
            x.run(1);
            Due.due("ON at " + target, x.state(0), ON);
            Due.due("of(0, 3)", x.of(0, 3), target);
            x.run(1);
            Due.due("DONE at " + target, x.state(0), DONE);
            Due.due("of(0, 3)", x.of(0, 3), target);
        }
    }

    private static void registersOfOneThatEnded() {
        int[] failed = {44, 0, 0, 2, 4};
        int[] done = {1, 0, 0, 3, 1};
        for (int what = 0; what < 5; what++) {
            int asked = what;
            Shown.dueUnchanged("of(3, " + what + "), FAILED", x -> x.of(3, asked), failed[what]);
            Shown.dueUnchanged("of(4, " + what + "), DONE", x -> x.of(4, asked), done[what]);
        }
    }

    /** 10: "k = -1: how many; REFUSED if there is none". */
    private static void rowOutside() {
        Shown.dueUnchanged("row(-1)", x -> x.row(-1), 1);
        for (int k : new int[] {MIN, -2, 1, 2, 11, 12, MAX}) {
            Shown.dueUnchanged("row(" + k + ")", x -> x.row(k), -1);
        }
        FibreDesk x = new FibreDesk(1);
        Due.due("row(-1), empty", x.row(-1), 0);
        Due.due("row(0), empty", x.row(0), -1);
        Due.due("row(-2), empty", x.row(-2), -1);
        Op.program(x, 0, Op.op(Op.JUMP, 0));
        x.start(0, 0);
        Op.dueRow(x, "one", 0);
        x.run(1);
        Op.dueRow(x, "empty again");
    }

    private static void rowFull() {
        FibreDesk x = new FibreDesk(1);
        x.slice(1);
        Op.program(x, 0, Op.op(Op.JUMP, 0));
        for (int f = 0; f < 12; f++) {
            x.start(0, 0);
        }
        Op.dueRow(x, "twelve", 0, 1, 2, 3, 4, 5, 6, 7, 8, 9, 10, 11);
        x.run(1);
        Op.dueRow(x, "the first is the last", 1, 2, 3, 4, 5, 6, 7, 8, 9, 10, 11, 0);
        Due.due("row(12)", x.row(12), -1);
        Due.due("row(13)", x.row(13), -1);
    }

    /** 11: "REFUSED if there is none". */
    private static void carrierWithoutFibre() {
        FibreDesk x = new FibreDesk(3);
        Op.program(x, 0, Op.op(Op.SET, 1, 1));
        x.start(0, 0);
        for (int k = 0; k < 3; k++) {
            Due.due("carrier(" + k + "), all READY", x.carrier(k), -1);
        }
        x.run(1);
        Due.due("carrier(0)", x.carrier(0), 0);
        Due.due("carrier(1)", x.carrier(1), -1);
        x.run(1);
        Due.due("carrier(0), it is DONE", x.carrier(0), -1);
    }

    /** 11: "or no such carrier". */
    private static void noSuchCarrier() {
        for (int k : new int[] {MIN, -2, -1, 2, 3, 4, MAX}) {
            Shown.dueUnchanged("carrier(" + k + ") of two", x -> x.carrier(k), -1);
        }
        for (int carriers = 1; carriers <= 3; carriers++) {
            FibreDesk x = new FibreDesk(carriers);
            Op.program(x, 0, Op.op(Op.JUMP, 0));
            for (int f = 0; f < 5; f++) {
                x.start(0, 0);
            }
            x.run(1);
            Due.due("the last of " + carriers, x.carrier(carriers - 1), carriers - 1);
            Due.due("behind the last of " + carriers, x.carrier(carriers), -1);
            Due.due("carrier(-1)", x.carrier(-1), -1);
        }
    }

    /** 12: "REFUSED - 1 if there is none": no such channel. */
    private static void heldOfNoSuchChannel() {
        for (int c : new int[] {MIN, -1, 4, 5, MAX}) {
            for (int k = -3; k <= 1; k++) {
                int asked = k;
                Shown.dueUnchanged("held(" + c + ", " + k + ")", x -> x.held(c, asked), -2);
            }
        }
    }

    /** 12: "The k-th number (0 first) that a channel holds; k = -1: how many; .. REFUSED - 1 if there is none". */
    private static void heldOutside() {
        for (int k : new int[] {MIN, -3, 2, 3, 4, MAX}) {
            Shown.dueUnchanged("held(1, " + k + ") of two", x -> x.held(1, k), -2);
        }
        Shown.dueUnchanged("held(1, 0)", x -> x.held(1, 0), 33);
        Shown.dueUnchanged("held(1, 1)", x -> x.held(1, 1), 0);
        Shown.dueUnchanged("held(0, 0), empty", x -> x.held(0, 0), -2);
        for (int c = 0; c < 4; c++) {
            FibreDesk x = new FibreDesk(1);
            x.channel(c, 3);
            Op.program(x, 0, Op.op(Op.SEND, c, 0));
            Op.program(x, 1, Op.op(Op.RECEIVE, c, 0));
            for (int i = 0; i < 3; i++) {
                x.start(0, MIN + i);
                x.run(9);
                Due.due("the latest", x.held(c, i), MIN + i);
                Due.due("behind it", x.held(c, i + 1), -2);
                Due.due("how many", x.held(c, -1), i + 1);
            }
            Op.dueHeld(x, "full", c, MIN, MIN + 1, MIN + 2);
            Due.due("held(c, -3)", x.held(c, -3), -2);
            for (int i = 2; i >= 0; i--) {
                x.start(1, 0);
                x.run(9);
                Due.due("how many are left", x.held(c, -1), i);
                Due.due("what was there is gone", x.held(c, i), -2);
            }
            Due.due("held(c, 0)", x.held(c, 0), -2);
        }
    }

    /** 12: "-2: its capacity, or 10 more if it is closed". */
    private static void heldCapacityOfAClosedOne() {
        for (int c = 0; c < 4; c++) {
            for (int capacity = 0; capacity <= 3; capacity++) {
                FibreDesk x = new FibreDesk(1);
                x.channel(c, capacity);
                Due.due("held(" + c + ", -2)", x.held(c, -2), capacity);
                Op.program(x, 0, Op.op(Op.CLOSE, c));
                x.start(0, 0);
                x.run(1);
                Due.due("held(" + c + ", -2), closed", x.held(c, -2), capacity + 10);
                Due.due("held(" + c + ", -1), closed", x.held(c, -1), 0);
                Due.due("another one", x.held((c + 1) % 4, -2), 0);
            }
        }
    }

    /** 13: "REFUSED if there is none": no such channel. */
    private static void waitsOfNoSuchChannel() {
        for (int c : new int[] {MIN, -1, 4, 5, MAX}) {
            for (int k = -2; k <= 1; k++) {
                int asked = k;
                Shown.dueUnchanged("waits(" + c + ", " + k + ")", x -> x.waits(c, asked), -1);
            }
        }
    }

    /** 13: "The k-th fibre that waits at a channel (to send, or to receive: also one that chooses); k = -1: how many". */
    private static void waitsOutside() {
        int[] due = {7, 6, -1, 7};
        for (int c = 0; c < 4; c++) {
            int number = c;
            Shown.dueUnchanged("waits(" + c + ", -1)", x -> x.waits(number, -1), due[c] < 0 ? 0 : 1);
            Shown.dueUnchanged("waits(" + c + ", 0)", x -> x.waits(number, 0), due[c]);
            for (int k : new int[] {MIN, -3, -2, 1, 11, 12, MAX}) {
                Shown.dueUnchanged("waits(" + c + ", " + k + ")", x -> x.waits(number, k), -1);
            }
        }
    }

    private static void waitsOfTwelve() {
        for (int c = 0; c < 4; c++) {
            FibreDesk x = new FibreDesk(3);
            Op.program(x, 0, Op.op(Op.RECEIVE, c, 0), Op.op(Op.END));
            Op.program(x, 1, Op.op(Op.YIELD), Op.op(Op.CHOOSE, c, 3 - c, 0));
            for (int f = 0; f < 12; f++) {
                x.start(f < 2 ? 1 : 0, 0);
            }
            x.run(50);
            Op.dueWaits(x, "those that yielded are the last", c, 2, 3, 4, 5, 6, 7, 8, 9, 10, 11, 0, 1);
            Op.dueWaits(x, "those that choose", 3 - c, 0, 1);
            Due.due("waits(" + c + ", 12)", x.waits(c, 12), -1);
            Due.due("waits(" + c + ", 13)", x.waits(c, 13), -1);
        }
    }

    private static FibreDesk deskWithOuts(int count) {
        FibreDesk x = new FibreDesk(1);
        Op.program(x, 0, Op.op(Op.OUT, 0));
        for (int i = 1; i <= count; i++) {
            x.start(0, 1000 + i);
            x.run(2);
        }
        Due.due("out(-1)", x.out(-1), count);
        return x;
    }

    /** 14: "0 if there is none". */
    private static void outBeforeTheFirst() {
        for (int count = 0; count <= 16; count++) {
            FibreDesk x = deskWithOuts(count);
            for (int k = 0; k <= 16; k++) {
                Due.due("out(" + k + ") of " + count, x.out(k), k < count && k < 16 ? 1000 + count - k : 0);
            }
        }
    }

    /** 14: "Number k before the latest one (k 0 .. 15) that was put OUT; k = -1: how many were". */
    private static void outOfTheSixteenth() {
        for (int count : new int[] {15, 16, 17, 31, 32, 33, 48, 49, 100}) {
            FibreDesk x = deskWithOuts(count);
            for (int k = 0; k < 16; k++) {
                Due.due("out(" + k + ") of " + count, x.out(k), k < count ? 1000 + count - k : 0);
            }
            Due.due("out(16) of " + count, x.out(16), 0);
            Due.due("out(17) of " + count, x.out(17), 0);
        }
        FibreDesk x = new FibreDesk(1);
        Op.program(x, 0, Op.op(Op.OUT, 0), Op.op(Op.SET, 1, NOTHING), Op.op(Op.OUT, 1), Op.op(Op.OUT, 2));
        x.start(0, MIN);
        x.run(9);
        Op.dueOut(x, "what a register holds, whatever it is", MIN, NOTHING, 0);
    }

    private static void outOutside() {
        for (int k : new int[] {MIN, -3, -2, 3, 15, 16, 17, MAX}) {
            Shown.dueUnchanged("out(" + k + ")", x -> x.out(k), 0);
        }
        Shown.dueUnchanged("out(-1)", x -> x.out(-1), 3);
        Shown.dueUnchanged("out(2)", x -> x.out(2), 1);
        FibreDesk x = deskWithOuts(20);
        for (int k : new int[] {MIN, -17, -16, -2, 16, 19, 20, MAX}) {
            Due.due("out(" + k + ") of 20", x.out(k), 0);
        }
    }
}

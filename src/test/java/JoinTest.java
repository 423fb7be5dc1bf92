/** JOIN and the ends of fibres (promises 7 to 10). */
public final class JoinTest {
    public static void main(String[] args) {
        joinWithoutWaiting();
        joinWaits();
        joinersInOrderOfNumbers();
        joinAFailedOne();
        joinersOfSendersThatFail();
        joinEachOther();
        joinAPlaceTakenAgain();
        joinIntoTheSameRegister();
        Due.end();
    }

    /** The joiners sleep first, so that those with higher numbers have ended when they join. */
    private static void joinWithoutWaiting() {
        FibreDesk x = new FibreDesk(1);
        Op.program(x, 0, Op.op(Op.SET, 0, 33));
        Op.program(x, 1, Op.op(Op.CLOSE, 0), Op.op(Op.SEND, 0, 0));
        Op.program(x, 2, Op.op(Op.SET, 1, 31), Op.op(Op.SLEEP, 1), Op.op(Op.JOIN, 0, 1), Op.op(Op.OUT, 1));
        int[] joined = {8, 9, 10, 11, 12, -1, Integer.MAX_VALUE, Integer.MIN_VALUE};
        for (int number : joined) {
            x.start(2, number);
        }
        Due.due("start", x.start(0, 0), 8);
        Due.due("start", x.start(1, 0), 9);
        x.run(30);
        Due.due("DONE", x.state(8), 5);
        Due.due("FAILED", x.state(9), 6);
        Due.due("each does JOIN, OUT, END", x.run(200), 3 * joined.length);
        for (int f = 0; f < joined.length; f++) {
            Due.due("JOIN of " + joined[f], x.of(f, 1), f == 0 ? 33 : -1000000);
        }
    }

    private static void joinWaits() {
        FibreDesk x = new FibreDesk(1);
        Op.program(x, 0, Op.op(Op.SLEEP, 0), Op.op(Op.SET, 0, 33));
        Op.program(x, 1, Op.op(Op.JOIN, 0, 2), Op.op(Op.OUT, 2));
        x.start(0, 9);
        x.start(1, 0);
        x.run(2);
        Due.due("WAITING", x.state(1), 3);
        Due.due("at its JOIN", x.of(1, 3), 0);
        for (int c = 0; c < 4; c++) {
            Op.dueWaits(x, "at no channel", c);
        }
        x.run(8);
        Due.due("still WAITING", x.state(1), 3);
        x.run(1);
        Due.due("DONE", x.state(0), 5);
        Due.due("READY", x.state(1), 1);
        Due.due("register 0 of it", x.of(1, 2), 33);
        Due.due("behind its JOIN", x.of(1, 3), 1);
        Due.due("OUT and END", x.run(100), 2);
    }

    private static void joinersInOrderOfNumbers() {
        FibreDesk x = new FibreDesk(1);
        Op.program(x, 0, Op.op(Op.RECEIVE, 0, 0));
        Op.program(x, 1, Op.op(Op.SLEEP, 1), Op.op(Op.JOIN, 0, 1));
        Op.program(x, 3, Op.op(Op.JOIN, 0, 1));
        Op.program(x, 4, Op.op(Op.SEND, 0, 0));
        x.start(0, 0);
        x.start(1, 0);
        x.start(3, 0);
        x.start(3, 0);
        x.run(100);
        x.start(4, 77);
        x.run(2);
        Due.due("the sender is DONE", x.state(4), 5);
        Op.dueRow(x, "the receiver", 0);
        x.run(1);
        Op.dueRow(x, "number 1 began to wait last", 1, 2, 3);
        for (int f = 1; f <= 3; f++) {
            Due.due("what they got", x.of(f, 1), 77);
        }
    }

    private static void joinAFailedOne() {
        FibreDesk x = new FibreDesk(1);
        Op.program(x, 0, Op.op(Op.SLEEP, 0), Op.op(Op.CLOSE, 0), Op.op(Op.SEND, 0, 0));
        Op.program(x, 1, Op.op(Op.JOIN, 0, 2), Op.op(Op.OUT, 2));
        x.start(0, 9);
        x.start(1, 0);
        x.run(100);
        Due.due("FAILED", x.state(0), 6);
        Op.dueOut(x, "NOTHING", -1000000);
    }

    private static void joinersOfSendersThatFail() {
        FibreDesk x = new FibreDesk(1);
        Op.program(x, 0, Op.op(Op.SEND, 0, 0));
        Op.program(x, 1, Op.op(Op.JOIN, 0, 2));
        Op.program(x, 2, Op.op(Op.CLOSE, 0));
        x.start(1, 5);
        x.start(1, 4);
        x.start(1, 5);
        x.start(1, 4);
        x.start(0, 50);
        x.start(0, 51);
        x.run(4);
        Op.dueRow(x, "the joiners wait, before the others have begun", 4, 5);
        x.run(100);
        x.start(2, 0);
        x.run(1);
        Op.dueRow(x, "those of the first one, then those of the second", 1, 3, 0, 2);
        for (int f = 0; f < 4; f++) {
            Due.due("what they got", x.of(f, 2), -1000000);
        }
    }

    private static void joinEachOther() {
        FibreDesk x = new FibreDesk(2);
        Op.program(x, 0, Op.op(Op.JOIN, 0, 1));
        x.start(0, 1);
        x.start(0, 0);
        x.start(0, 2);
        Due.due("two wait for ever, the third joins itself", x.run(100), 4);
        Due.due("time()", x.time(), 3);
        Due.due("state(0)", x.state(0), 3);
        Due.due("state(1)", x.state(1), 3);
        Due.due("state(2)", x.state(2), 5);
        Due.due("itself", x.of(2, 1), -1000000);
    }

    private static void joinAPlaceTakenAgain() {
        FibreDesk x = new FibreDesk(1);
        Op.program(x, 0, Op.op(Op.END));
        Op.program(x, 1, Op.op(Op.JOIN, 0, 1), Op.op(Op.OUT, 1));
        Op.program(x, 2, Op.op(Op.RECEIVE, 0, 0));
        x.start(0, 5);
        x.run(9);
        x.start(2, 6);
        x.start(1, 0);
        x.run(9);
        Due.due("it waits for the new one", x.state(1), 3);
        Op.dueOut(x, "nothing yet");
    }

    private static void joinIntoTheSameRegister() {
        FibreDesk x = new FibreDesk(1);
        Op.program(x, 0, Op.op(Op.SLEEP, 0), Op.op(Op.SET, 0, 8));
        Op.program(x, 1, Op.op(Op.JOIN, 0, 0), Op.op(Op.JOIN, 1, 1));
        x.start(0, 5);
        x.start(1, 0);
        x.run(100);
        Due.due("first, from one that waits", x.of(1, 0), 8);
        Due.due("second, from one that is DONE", x.of(1, 1), 8);
    }
}

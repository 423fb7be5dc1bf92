/** SEND, RECEIVE, CHOOSE and CLOSE, seen through promises 12 and 13: held and waits. */
public final class ChannelTest {
    private static final int MIN = Integer.MIN_VALUE, MAX = Integer.MAX_VALUE;

    public static void main(String[] args) {
        wrongNumbers();
        sendFillsThenWaits();
        receiveLetsTheFirstSenderPut();
        receiveWithoutRoom();
        sendToTheFirstReceiver();
        sendToClosedFails();
        receiveFromClosed();
        closeReceivers();
        closeSenders();
        closeTwice();
        chooseTakesTheFirstChannel();
        chooseTakesTheSecondChannel();
        chooseFromClosed();
        chooseWaitsAtBoth();
        chooseWaitsOnce();
        chooseIsClosed();
        chooseLeavesTheOrderOfOthers();
        lastChannelFull();
        sendsThenReceives();
        Due.end();
    }

    private static FibreDesk desk(int carriers, int channel, int capacity) {
        FibreDesk x = new FibreDesk(carriers);
        Due.due("channel", x.channel(channel, capacity), true);
        Op.program(x, 0, Op.op(Op.SEND, 0, 0), Op.op(Op.SET, 1, 1));
        Op.program(x, 1, Op.op(Op.RECEIVE, 0, 2), Op.op(Op.OUT, 2));
        Op.program(x, 2, Op.op(Op.CLOSE, 0));
        Op.program(x, 3, Op.op(Op.CHOOSE, 1, 0, 1), Op.op(Op.OUT, 1));
        Op.program(x, 4, Op.op(Op.SEND, 1, 0));
        Op.program(x, 5, Op.op(Op.CLOSE, 1));
        return x;
    }

    private static void start(FibreDesk x, int p, int... values) {
        for (int v : values) {
            Due.due("start", x.start(p, v) >= 0, true);
        }
    }

    private static void wrongNumbers() {
        FibreDesk x = new FibreDesk(1);
        for (int c : new int[] {MIN, -1, 4, MAX}) {
            for (int k = -2; k <= 0; k++) {
                Due.due("held(" + c + ", " + k + ")", x.held(c, k), -2);
                Due.due("waits(" + c + ", " + k + ")", x.waits(c, k), -1);
            }
        }
        for (int k : new int[] {MIN, -3, 0, 1, 3, MAX}) {
            Due.due("held(0, " + k + ")", x.held(0, k), -2);
            Due.due("waits(0, " + k + ")", x.waits(0, k), -1);
        }
        Due.due("waits(0, -2)", x.waits(0, -2), -1);
    }

    private static void sendFillsThenWaits() {
        for (int capacity = 0; capacity <= 3; capacity++) {
            FibreDesk x = desk(1, 0, capacity);
            start(x, 0, 50, 51, 52, 53, 54);
            x.run(100);
            int[] held = new int[capacity];
            int[] waits = new int[5 - capacity];
            for (int i = 0; i < 5; i++) {
                if (i < capacity) {
                    held[i] = 50 + i;
                } else {
                    waits[i - capacity] = i;
                }
                Due.due("state(" + i + ")", x.state(i), i < capacity ? 5 : 3);
            }
            Op.dueHeld(x, "capacity " + capacity, 0, held);
            Op.dueWaits(x, "capacity " + capacity, 0, waits);
            Due.due("held(0, -2)", x.held(0, -2), capacity);
        }
    }

    private static void receiveLetsTheFirstSenderPut() {
        FibreDesk x = desk(1, 0, 2);
        start(x, 0, 50, 51, 52, 53);
        x.run(100);
        start(x, 1, 0);
        x.run(1);
        Due.due("the first number", x.of(0, 2), 50);
        Op.dueHeld(x, "the first sender puts its number behind", 0, 51, 52);
        Op.dueWaits(x, "the second one waits on", 0, 3);
        Op.dueRow(x, "the first sender", 2);
        Due.due("behind its instruction", x.of(2, 3), 1);
        x.run(100);
        start(x, 1, 0, 0, 0);
        x.run(100);
        Op.dueOut(x, "in the order in which they came", 50, 51, 52, 53);
        Op.dueHeld(x, "empty", 0);
        Op.dueWaits(x, "nobody", 0);
    }

    private static void receiveWithoutRoom() {
        FibreDesk x = desk(1, 0, 0);
        start(x, 0, 50, 51);
        x.run(100);
        Op.dueWaits(x, "both", 0, 0, 1);
        Due.due("at its SEND", x.of(0, 3), 0);
        start(x, 1, 0);
        x.run(1);
        Due.due("the first one gives", x.of(2, 2), 50);
        Op.dueHeld(x, "nothing", 0);
        Op.dueWaits(x, "the second", 0, 1);
        Op.dueRow(x, "the first", 0);
    }

    private static void sendToTheFirstReceiver() {
        FibreDesk x = desk(1, 0, 3);
        start(x, 1, 0, 0, 0);
        x.run(100);
        Op.dueWaits(x, "three", 0, 0, 1, 2);
        start(x, 0, 60);
        x.run(1);
        Op.dueHeld(x, "it goes past the room", 0);
        Op.dueWaits(x, "two", 0, 1, 2);
        Op.dueRow(x, "the first", 0);
        Due.due("what it got", x.of(0, 2), 60);
        Due.due("behind its instruction", x.of(0, 3), 1);
        Due.due("the sender goes on", x.carrier(0), 3);
        Due.due("the sender's next", x.of(3, 3), 1);
    }

    private static void sendToClosedFails() {
        FibreDesk x = desk(1, 0, 3);
        start(x, 2, 0);
        x.run(100);
        Due.due("closed", x.held(0, -2), 13);
        start(x, 0, 50);
        Due.due("it does one instruction", x.run(100), 1);
        Due.due("FAILED", x.state(0), 6);
        Due.due("at its SEND", x.of(0, 3), 0);
        Op.dueHeld(x, "nothing", 0);
        Due.due("carrier(0)", x.carrier(0), -1);
    }

    private static void receiveFromClosed() {
        FibreDesk x = desk(1, 0, 2);
        start(x, 0, 50, 51);
        x.run(100);
        start(x, 2, 0);
        x.run(100);
        Op.dueHeld(x, "what it holds stays", 0, 50, 51);
        start(x, 1, 0, 0, 0);
        x.run(100);
        Op.dueOut(x, "what it holds, then NOTHING", 50, 51, -1000000);
    }

    private static void closeReceivers() {
        FibreDesk x = desk(1, 0, 1);
        start(x, 3, 0);
        start(x, 1, 0, 0);
        x.run(100);
        start(x, 2, 0);
        x.run(1);
        Op.dueRow(x, "in the order in which they wait", 0, 1, 2);
        Due.due("the chooser's", x.of(0, 1), -1000000);
        Due.due("the first one's", x.of(1, 2), -1000000);
        Due.due("the second one's", x.of(2, 2), -1000000);
        Op.dueWaits(x, "nobody", 0);
        Op.dueWaits(x, "the chooser waits no more", 1);
        Due.due("closed", x.held(0, -2), 11);
    }

    private static void closeSenders() {
        FibreDesk x = desk(1, 0, 1);
        x.slice(8);
        start(x, 0, 50, 51, 52);
        x.run(100);
        Op.program(x, 5, Op.op(Op.JOIN, 0, 1));
        start(x, 5, 2, 1, 2);
        x.run(100);
        Op.dueWaits(x, "two", 0, 1, 2);
        start(x, 2, 0);
        x.run(1);
        Due.due("FAILED", x.state(1), 6);
        Due.due("FAILED", x.state(2), 6);
        Due.due("at its SEND", x.of(1, 3), 0);
        Op.dueRow(x, "who joined the first one, then who joined the second", 3, 0, 4);
        Op.dueHeld(x, "what it holds stays", 0, 50);
        Op.dueWaits(x, "nobody", 0);
    }

    private static void closeTwice() {
        FibreDesk x = desk(1, 0, 2);
        start(x, 2, 0, 0);
        Due.due("two CLOSEs, two ENDs", x.run(100), 4);
        Due.due("closed", x.held(0, -2), 12);
        Due.due("the other one", x.held(1, -2), 0);
    }

    private static void chooseTakesTheFirstChannel() {
        FibreDesk x = desk(1, 0, 1);
        x.channel(1, 1);
        start(x, 0, 50);
        start(x, 4, 40);
        x.run(100);
        start(x, 3, 0);
        x.run(100);
        Op.dueOut(x, "channel a", 40);
        Op.dueHeld(x, "channel b", 0, 50);
        Op.dueHeld(x, "channel a", 1);
    }

    private static void chooseTakesTheSecondChannel() {
        FibreDesk x = desk(1, 0, 0);
        start(x, 0, 50, 51);
        x.run(100);
        start(x, 3, 0);
        x.run(100);
        Op.dueOut(x, "channel b, from one that waits", 50);
        Op.dueWaits(x, "channel b", 0, 1);
        Op.dueWaits(x, "channel a", 1);
    }

    private static void chooseFromClosed() {
        FibreDesk x = desk(1, 0, 1);
        start(x, 0, 50);
        start(x, 5, 0);
        x.run(100);
        start(x, 3, 0);
        x.run(100);
        Op.dueOut(x, "a is closed, so RECEIVE from it would not wait", -1000000);
        Op.dueHeld(x, "channel b", 0, 50);
    }

    private static void chooseWaitsAtBoth() {
        FibreDesk x = desk(1, 0, 3);
        start(x, 3, 0, 0);
        x.run(100);
        Op.dueWaits(x, "channel a", 1, 0, 1);
        Op.dueWaits(x, "channel b", 0, 0, 1);
        start(x, 0, 50);
        x.run(1);
        Due.due("into its register", x.of(0, 1), 50);
        Op.dueWaits(x, "channel a", 1, 1);
        Op.dueWaits(x, "channel b", 0, 1);
        start(x, 4, 40);
        x.run(100);
        Op.dueOut(x, "one from each", 50, 40);
        Op.dueWaits(x, "channel a", 1);
        Op.dueWaits(x, "channel b", 0);
    }

    private static void chooseWaitsOnce() {
        FibreDesk x = new FibreDesk(1);
        Op.program(x, 0, Op.op(Op.CHOOSE, 2, 2, 1), Op.op(Op.OUT, 1));
        Op.program(x, 1, Op.op(Op.SEND, 2, 0));
        start(x, 0, 0);
        x.run(100);
        Op.dueWaits(x, "once", 2, 0);
        start(x, 1, 9);
        x.run(100);
        Op.dueOut(x, "what came", 9);
        Op.dueWaits(x, "nobody", 2);
    }

    private static void chooseIsClosed() {
        FibreDesk x = desk(1, 0, 0);
        start(x, 3, 0);
        x.run(100);
        start(x, 5, 0);
        x.run(100);
        Op.dueOut(x, "channel a is closed", -1000000);
        Op.dueWaits(x, "channel b", 0);
        Due.due("channel b is not closed", x.held(0, -2), 0);
    }

    private static void chooseLeavesTheOrderOfOthers() {
        FibreDesk x = desk(1, 0, 0);
        start(x, 1, 0);
        start(x, 3, 0);
        start(x, 1, 0);
        x.run(100);
        Op.dueWaits(x, "channel b", 0, 0, 1, 2);
        start(x, 4, 40);
        x.run(1);
        Op.dueWaits(x, "the one in the middle is gone", 0, 0, 2);
        Op.dueRow(x, "it is READY", 1);
    }

    private static void lastChannelFull() {
        FibreDesk x = desk(1, 3, 3);
        Op.program(x, 0, Op.op(Op.SEND, 3, 0));
        Op.program(x, 1, Op.op(Op.RECEIVE, 3, 0), Op.op(Op.OUT, 0), Op.op(Op.JUMP, 0));
        start(x, 0, 50, 51, 52, 53, 54);
        x.run(100);
        Op.dueHeld(x, "full", 3, 50, 51, 52);
        Due.due("held(3, 4)", x.held(3, 4), -2);
        Op.dueWaits(x, "two", 3, 3, 4);
        start(x, 1, 0);
        x.run(100);
        Op.dueOut(x, "all in their order", 50, 51, 52, 53, 54);
        Op.dueWaits(x, "the receiver", 3, 0);
    }

    private static void sendsThenReceives() {
        FibreDesk x = new FibreDesk(1);
        Op.program(x, 0, Op.op(Op.SEND, 0, 0), Op.op(Op.RECEIVE, 1, 1), Op.op(Op.OUT, 1));
        Op.program(x, 1, Op.op(Op.RECEIVE, 0, 1), Op.op(Op.YIELD), Op.op(Op.SEND, 1, 1), Op.op(Op.OUT, 0));
        start(x, 0, 5);
        x.run(100);
        start(x, 1, 6);
        x.run(3);
        Op.dueWaits(x, "it waits to receive, having waited to send", 1, 0);
        x.run(100);
        Due.due("DONE", x.state(0), 5);
        Due.due("DONE", x.state(1), 5);
        Due.due("out(-1)", x.out(-1), 2);
        Due.due("its own number came back", x.of(0, 1), 5);
    }
}

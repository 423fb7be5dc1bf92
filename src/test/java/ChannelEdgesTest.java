/**
 * The edges of SEND, RECEIVE, CHOOSE and CLOSE that stand under "Terms": a channel that is empty, full, without room,
 * or closed, and those that wait there. Each is tried at every channel, since each has its own room.
 */
public final class ChannelEdgesTest {
    private static final int MIN = Integer.MIN_VALUE, MAX = Integer.MAX_VALUE, NOTHING = -1000000;
    private static final int READY = 1, ON = 2, WAITING = 3, DONE = 5, FAILED = 6;

    // The programs of a desk: they do one thing at their channel and then go round, so that they stay to be seen.
    private static final int SENDER = 0, RECEIVER = 1, CLOSER = 2, CHOOSER = 3, OTHER_SENDER = 4, OTHER_CLOSER = 5;

    public static void main(String[] args) {
        for (int c = 0; c < 4; c++) {
            sendToAClosedOneFails(c);
            sendToOneThatWaits(c);
            sendIntoTheLastRoom(c);
            sendToAFullOneWaits(c);
            sendOfAnyNumber(c);
            receiveTheFirstNumber(c);
            receiveThenASenderPutsBehind(c);
            receiveWithoutRoomFromASender(c);
            receiveFromAClosedOne(c);
            receiveFromAClosedOneThatHolds(c);
            receiveFromAnEmptyOneWaits(c);
            chooseTheFirstIfItWouldNotWait(c);
            chooseTheSecondIfTheFirstWouldWait(c);
            chooseLetsASenderPutBehind(c);
            chooseWaitsAtBoth(c);
            chooseGetsTheFirstNumberThatComes(c);
            chooseGetsNothingIfOneIsClosed(c);
            chooseOfTheSameTwiceWaitsOnce(c);
            chooseOfTheSameTwiceWithoutWaiting(c);
            chooserStandsAmongTheReceivers(c);
            closeWithReceivers(c);
            closeWithSenders(c);
            closeWithElevenThatWait(c);
            closeWithNobody(c);
            closeOfAClosedOne(c);
            closedOneIsOpenedAgain(c);
            waitingAgainIsAtTheEnd(c);
            waitingToReceiveAfterWaitingToSend(c);
        }
        Due.end();
    }

    private static int other(int c) {
        return (c + 1) % 4;
    }

    private static FibreDesk desk(int c, int capacity) {
        FibreDesk x = new FibreDesk(1);
        Due.due("channel", x.channel(c, capacity), true);
        int[][] firsts = {{Op.SEND, c, 0}, {Op.RECEIVE, c, 2}, {Op.CLOSE, c}, {Op.CHOOSE, c, other(c), 2},
            {Op.SEND, other(c), 0}, {Op.CLOSE, other(c)}};
        for (int p = 0; p < firsts.length; p++) {
            Op.program(x, p, firsts[p], Op.op(Op.SET, 1, 1), Op.op(Op.END));
        }
        return x;
    }

    /** Starts one after the other, and lets each come as far as it can. */
    private static void go(FibreDesk x, int p, int... values) {
        for (int v : values) {
            Due.due("start", x.start(p, v) >= 0, true);
            x.run(20);
        }
    }

    /** Starts one and lets it do one instruction: its number. */
    private static int step(FibreDesk x, int p, int v) {
        int f = x.start(p, v);
        Due.due("one instruction", x.run(1), 1);
        return f;
    }

    private static void dueGoesOn(FibreDesk x, String where, int f, int state) {
        Due.due(where + ": state(" + f + ")", x.state(f), state);
        Due.due(where + ": of(" + f + ", 3)", x.of(f, 3), 1);
    }

    private static void dueWaits(FibreDesk x, String where, int f) {
        Due.due(where + ": state(" + f + ")", x.state(f), WAITING);
        Due.due(where + ": of(" + f + ", 3)", x.of(f, 3), 0);
        Due.due(where + ": carrier(0)", x.carrier(0), -1);
    }

    /** "SEND: to a closed channel the fibre FAILS", be there room or not. */
    private static void sendToAClosedOneFails(int c) {
        for (int capacity = 0; capacity <= 3; capacity++) {
            for (int held = 0; held <= capacity; held++) {
                FibreDesk x = desk(c, capacity);
                int[] numbers = new int[held];
                for (int i = 0; i < held; i++) {
                    numbers[i] = 50 + i;
                }
                go(x, SENDER, numbers);
                go(x, CLOSER, 0);
                int f = step(x, SENDER, 60);
                Due.due("FAILED", x.state(f), FAILED);
                Due.due("at its SEND", x.of(f, 3), 0);
                Due.due("carrier(0)", x.carrier(0), -1);
                Op.dueRow(x, "no one");
                Op.dueHeld(x, "as before", c, numbers);
                Op.dueWaits(x, "no one", c);
                Due.due("it does nothing more", x.run(20), 0);
            }
        }
    }

    /** "If a fibre waits to RECEIVE there, the first of these gets the number", however much room there is. */
    private static void sendToOneThatWaits(int c) {
        for (int capacity = 0; capacity <= 3; capacity++) {
            FibreDesk x = desk(c, capacity);
            go(x, RECEIVER, 0, 0);
            int f = step(x, SENDER, 60);
            Due.due("the first one's register", x.of(0, 2), 60);
            Due.due("the second one's register", x.of(1, 2), 0);
            dueGoesOn(x, "the first", 0, READY);
            dueGoesOn(x, "the sender", f, ON);
            Op.dueRow(x, "the first", 0);
            Op.dueWaits(x, "the second", c, 1);
            Op.dueHeld(x, "nothing", c);
        }
    }

    /** "else, if the channel holds less than its capacity, it holds the number". */
    private static void sendIntoTheLastRoom(int c) {
        for (int capacity = 1; capacity <= 3; capacity++) {
            FibreDesk x = desk(c, capacity);
            for (int i = 0; i < capacity; i++) {
                int f = step(x, SENDER, 50 + i);
                dueGoesOn(x, "room for " + (i + 1), f, ON);
                Due.due("how many", x.held(c, -1), i + 1);
                Due.due("the latest", x.held(c, i), 50 + i);
                Due.due("the first", x.held(c, 0), 50);
                x.run(20);
            }
            Op.dueWaits(x, "no one", c);
        }
    }

    /** "else the fibre waits there, with the number". */
    private static void sendToAFullOneWaits(int c) {
        for (int capacity = 0; capacity <= 3; capacity++) {
            FibreDesk x = desk(c, capacity);
            for (int i = 0; i < capacity; i++) {
                go(x, SENDER, 50 + i);
            }
            int f = step(x, SENDER, 60);
            dueWaits(x, "capacity " + capacity, f);
            int g = step(x, SENDER, 61);
            dueWaits(x, "capacity " + capacity, g);
            Op.dueWaits(x, "in the order in which they began to", c, f, g);
            Due.due("how many", x.held(c, -1), capacity);
            Op.dueRow(x, "no one");
        }
    }

    private static void sendOfAnyNumber(int c) {
        for (int capacity = 0; capacity <= 1; capacity++) {
            for (int v : new int[] {MIN, NOTHING, -2, -1, 0, MAX}) {
                FibreDesk x = desk(c, capacity);
                go(x, SENDER, v);
                if (capacity == 1) {
                    Op.dueHeld(x, "one", c, v);
                }
                go(x, RECEIVER, 0);
                int receiver = 1 - capacity;
                Due.due("what came", x.of(receiver, 2), v);
                Due.due("DONE", x.state(receiver), DONE);
            }
        }
    }

    /** "RECEIVE: if the channel holds something, its first number". */
    private static void receiveTheFirstNumber(int c) {
        FibreDesk x = desk(c, 3);
        go(x, SENDER, 50, 51, 52);
        for (int i = 0; i < 3; i++) {
            int f = step(x, RECEIVER, 0);
            dueGoesOn(x, "receiver " + i, f, ON);
            Due.due("its number", x.of(f, 2), 50 + i);
            Due.due("how many are left", x.held(c, -1), 2 - i);
            Due.due("the next", x.held(c, 0), i == 2 ? -2 : 51 + i);
            x.run(20);
        }
    }

    /** "then, if a fibre waits to SEND there, the first of these puts its number behind". */
    private static void receiveThenASenderPutsBehind(int c) {
        for (int capacity = 1; capacity <= 3; capacity++) {
            FibreDesk x = desk(c, capacity);
            for (int i = 0; i < capacity; i++) {
                go(x, SENDER, 50 + i);
            }
            go(x, SENDER, 60, 61);
            int f = step(x, RECEIVER, 0);
            Due.due("the first number", x.of(f, 2), 50);
            Due.due("it is full again", x.held(c, -1), capacity);
            Due.due("the sender's is the last", x.held(c, capacity - 1), 60);
            Due.due("the first", x.held(c, 0), capacity == 1 ? 60 : 51);
            Due.due("one sender waits on", x.waits(c, -1), 1);
            Due.due("the row", x.row(-1), 1);
            dueGoesOn(x, "the first sender", x.row(0), READY);
            Due.due("with register 0", x.of(x.row(0), 0), 60);
            Due.due("the second waits", x.of(x.waits(c, 0), 0), 61);
        }
    }

    /** "If it holds nothing and a fibre waits to SEND, the first of these gives its number". */
    private static void receiveWithoutRoomFromASender(int c) {
        FibreDesk x = desk(c, 0);
        go(x, SENDER, 60, 61);
        int f = step(x, RECEIVER, 0);
        Due.due("its number", x.of(f, 2), 60);
        dueGoesOn(x, "the receiver", f, ON);
        dueGoesOn(x, "the first sender", 0, READY);
        Op.dueRow(x, "the first sender", 0);
        Op.dueWaits(x, "the second sender", c, 1);
        Op.dueHeld(x, "nothing", c);
    }

    /** "Else, if it is closed, NOTHING". */
    private static void receiveFromAClosedOne(int c) {
        for (int capacity = 0; capacity <= 3; capacity++) {
            FibreDesk x = desk(c, capacity);
            go(x, CLOSER, 0);
            for (int i = 0; i < 3; i++) {
                int f = step(x, RECEIVER, 5);
                dueGoesOn(x, "closed", f, ON);
                Due.due("NOTHING", x.of(f, 2), NOTHING);
                Due.due("register 0 stays", x.of(f, 0), 5);
                x.run(20);
            }
            Op.dueWaits(x, "no one", c);
        }
    }

    private static void receiveFromAClosedOneThatHolds(int c) {
        for (int capacity = 1; capacity <= 3; capacity++) {
            FibreDesk x = desk(c, capacity);
            for (int i = 0; i < capacity; i++) {
                go(x, SENDER, 50 + i);
            }
            go(x, CLOSER, 0);
            for (int i = 0; i <= capacity; i++) {
                int f = step(x, RECEIVER, 0);
                Due.due("what it holds, then NOTHING", x.of(f, 2), i < capacity ? 50 + i : NOTHING);
                x.run(20);
            }
        }
    }

    /** "else the fibre waits there". */
    private static void receiveFromAnEmptyOneWaits(int c) {
        for (int capacity = 0; capacity <= 3; capacity++) {
            FibreDesk x = desk(c, capacity);
            int f = step(x, RECEIVER, 0);
            dueWaits(x, "the first", f);
            Due.due("nothing has come", x.of(f, 2), 0);
            int g = step(x, RECEIVER, 0);
            dueWaits(x, "the second", g);
            Op.dueWaits(x, "in the order in which they began to", c, f, g);
            for (int d = 0; d < 4; d++) {
                Due.due("waits(" + d + ", -1)", x.waits(d, -1), d == c ? 2 : 0);
            }
        }
    }

    /** "CHOOSE: if RECEIVE from a would not wait, that": it holds, a sender waits, or it is closed. */
    private static void chooseTheFirstIfItWouldNotWait(int c) {
        for (int capacity = 0; capacity <= 1; capacity++) {
            FibreDesk x = desk(c, capacity);
            x.channel(other(c), 1);
            go(x, OTHER_SENDER, 70);
            go(x, SENDER, 60);
            int f = step(x, CHOOSER, 0);
            Due.due("from a, capacity " + capacity, x.of(f, 2), 60);
            dueGoesOn(x, "the chooser", f, ON);
            Op.dueHeld(x, "b", other(c), 70);
            Op.dueHeld(x, "a", c);
            Op.dueWaits(x, "a", c);
        }
        FibreDesk x = desk(c, 2);
        x.channel(other(c), 1);
        go(x, OTHER_SENDER, 70);
        go(x, CLOSER, 0);
        int f = step(x, CHOOSER, 0);
        Due.due("a is closed", x.of(f, 2), NOTHING);
        Op.dueHeld(x, "b", other(c), 70);
    }

    /** "else if RECEIVE from b would not, that". */
    private static void chooseTheSecondIfTheFirstWouldWait(int c) {
        for (int capacity = 0; capacity <= 1; capacity++) {
            FibreDesk x = desk(c, 1);
            x.channel(other(c), capacity);
            go(x, OTHER_SENDER, 70);
            int f = step(x, CHOOSER, 0);
            Due.due("from b, capacity " + capacity, x.of(f, 2), 70);
            dueGoesOn(x, "the chooser", f, ON);
            Op.dueWaits(x, "a", c);
            Op.dueWaits(x, "b", other(c));
            Op.dueHeld(x, "b", other(c));
        }
        FibreDesk x = desk(c, 1);
        go(x, OTHER_CLOSER, 0);
        int f = step(x, CHOOSER, 0);
        Due.due("b is closed", x.of(f, 2), NOTHING);
        Op.dueWaits(x, "a", c);
        dueGoesOn(x, "the chooser", f, ON);
    }

    private static void chooseLetsASenderPutBehind(int c) {
        FibreDesk x = desk(c, 1);
        x.channel(other(c), 1);
        go(x, SENDER, 60, 61);
        go(x, OTHER_SENDER, 70, 71);
        step(x, CHOOSER, 0);
        Op.dueHeld(x, "a", c, 61);
        Op.dueWaits(x, "a", c);
        Op.dueHeld(x, "b", other(c), 70);
        Due.due("waits at b", x.waits(other(c), -1), 1);
        Due.due("the row", x.row(-1), 1);
    }

    /** "else it waits at both". */
    private static void chooseWaitsAtBoth(int c) {
        for (int capacity = 0; capacity <= 3; capacity++) {
            FibreDesk x = desk(c, capacity);
            x.channel(other(c), capacity);
            int f = step(x, CHOOSER, 0);
            dueWaits(x, "the chooser", f);
            for (int d = 0; d < 4; d++) {
                boolean waits = d == c || d == other(c);
                Due.due("waits(" + d + ", -1)", x.waits(d, -1), waits ? 1 : 0);
                Due.due("waits(" + d + ", 0)", x.waits(d, 0), waits ? f : -1);
            }
        }
    }

    /** "and gets the first number that comes". */
    private static void chooseGetsTheFirstNumberThatComes(int c) {
        for (int sender : new int[] {SENDER, OTHER_SENDER}) {
            FibreDesk x = desk(c, 1);
            x.channel(other(c), 1);
            go(x, CHOOSER, 0);
            int f = step(x, sender, 60);
            dueGoesOn(x, "the sender", f, ON);
            dueGoesOn(x, "the chooser", 0, READY);
            Due.due("what came", x.of(0, 2), 60);
            Op.dueRow(x, "once in the row", 0);
            Op.dueWaits(x, "a", c);
            Op.dueWaits(x, "b", other(c));
            x.run(20);
            Due.due("the chooser is DONE", x.state(0), DONE);
            Due.due("with what came", x.of(0, 2), 60);
            go(x, SENDER, 61);
            go(x, OTHER_SENDER, 71);
            Op.dueHeld(x, "the next ones are not for it", c, 61);
            Op.dueHeld(x, "the next ones are not for it", other(c), 71);
        }
    }

    /** "(or NOTHING, if one is closed)". */
    private static void chooseGetsNothingIfOneIsClosed(int c) {
        for (int closer : new int[] {CLOSER, OTHER_CLOSER}) {
            FibreDesk x = desk(c, 1);
            x.channel(other(c), 1);
            go(x, CHOOSER, 0, 0);
            step(x, closer, 0);
            Op.dueRow(x, "each once", 0, 1);
            for (int f = 0; f < 2; f++) {
                dueGoesOn(x, "the chooser", f, READY);
                Due.due("NOTHING", x.of(f, 2), NOTHING);
            }
            Op.dueWaits(x, "a", c);
            Op.dueWaits(x, "b", other(c));
            Due.due("a", x.held(c, -2), closer == CLOSER ? 11 : 1);
            Due.due("b", x.held(other(c), -2), closer == CLOSER ? 1 : 11);
            Due.due("each SET and END", x.run(20), 6);
            go(x, closer == CLOSER ? OTHER_CLOSER : CLOSER, 0);
            Op.dueRow(x, "no one waited at the other one");
        }
    }

    private static FibreDesk deskWithTwiceTheSame(int c, int capacity) {
        FibreDesk x = desk(c, capacity);
        Op.program(x, CHOOSER, Op.op(Op.CHOOSE, c, c, 2), Op.op(Op.SET, 1, 1), Op.op(Op.END));
        return x;
    }

    /** "it waits at both (once, if they are the same)". */
    private static void chooseOfTheSameTwiceWaitsOnce(int c) {
        for (int p : new int[] {SENDER, CLOSER}) {
            for (int capacity = 0; capacity <= 3; capacity++) {
                FibreDesk x = deskWithTwiceTheSame(c, capacity);
                go(x, CHOOSER, 0);
                Op.dueWaits(x, "once", c, 0);
                go(x, RECEIVER, 0);
                Op.dueWaits(x, "behind it", c, 0, 1);
                step(x, p, 60);
                Due.due("what it got", x.of(0, 2), p == SENDER ? 60 : NOTHING);
                if (p == SENDER) {
                    Op.dueRow(x, "once in the row", 0);
                    Op.dueWaits(x, "the other one", c, 1);
                } else {
                    Op.dueRow(x, "each once in the row", 0, 1);
                    Op.dueWaits(x, "no one", c);
                }
            }
        }
    }

    private static void chooseOfTheSameTwiceWithoutWaiting(int c) {
        for (int capacity = 0; capacity <= 1; capacity++) {
            FibreDesk x = deskWithTwiceTheSame(c, capacity);
            go(x, SENDER, 60, 61);
            int f = step(x, CHOOSER, 0);
            Due.due("one number", x.of(f, 2), 60);
            Due.due("held", x.held(c, -1), capacity);
            Due.due("waits", x.waits(c, -1), 1 - capacity);
        }
        FibreDesk x = deskWithTwiceTheSame(c, 1);
        go(x, CLOSER, 0);
        int f = step(x, CHOOSER, 0);
        Due.due("closed", x.of(f, 2), NOTHING);
        dueGoesOn(x, "the chooser", f, ON);
    }

    private static void chooserStandsAmongTheReceivers(int c) {
        FibreDesk x = desk(c, 2);
        go(x, RECEIVER, 0);
        go(x, CHOOSER, 0);
        go(x, RECEIVER, 0);
        Op.dueWaits(x, "three", c, 0, 1, 2);
        Op.dueWaits(x, "the chooser", other(c), 1);
        Due.due("start", x.start(OTHER_SENDER, 70), 3);
        x.run(1);
        Op.dueWaits(x, "the one in the middle has left", c, 0, 2);
        Op.dueWaits(x, "no one", other(c));
        x.run(20);
        go(x, SENDER, 60, 61);
        Due.due("the first", x.held(c, -1), 0);
        Op.dueWaits(x, "no one", c);
    }

    /** "CLOSE: those that wait to RECEIVE there get NOTHING .. in the order in which they wait". */
    private static void closeWithReceivers(int c) {
        FibreDesk x = desk(c, 1);
        Due.due("start", x.start(CHOOSER, 0), 0);
        Due.due("start", x.start(RECEIVER, 0), 1);
        x.run(2);
        Op.dueWaits(x, "two", c, 0, 1);
        step(x, SENDER, 60);
        Op.dueRow(x, "the chooser got it", 0);
        x.run(20);
        Due.due("DONE", x.state(0), DONE);
        go(x, RECEIVER, 0, 0);
        Op.dueWaits(x, "a lesser number behind", c, 1, 0, 2);
        int f = step(x, CLOSER, 0);
        dueGoesOn(x, "the closer", f, ON);
        Op.dueRow(x, "in the order in which they waited", 1, 0, 2);
        for (int g = 0; g < 3; g++) {
            dueGoesOn(x, "the receiver", g, READY);
            Due.due("NOTHING", x.of(g, 2), NOTHING);
        }
        Op.dueWaits(x, "no one", c);
    }

    /** "those that wait to SEND there FAIL, in the order in which they wait". */
    private static void closeWithSenders(int c) {
        for (int capacity = 0; capacity <= 3; capacity++) {
            FibreDesk x = desk(c, capacity);
            for (int i = 0; i < capacity; i++) {
                go(x, SENDER, 50 + i);
            }
            Op.program(x, OTHER_CLOSER, Op.op(Op.SLEEP, 1), Op.op(Op.JOIN, 0, 2), Op.op(Op.JUMP, 2));
            go(x, SENDER, 60, 61);
            int first = x.waits(c, 0);
            int second = x.waits(c, 1);
            int joinsSecond = x.start(OTHER_CLOSER, second);
            int joinsFirst = x.start(OTHER_CLOSER, first);
            x.run(20);
            Due.due("both join", x.state(joinsFirst) == WAITING && x.state(joinsSecond) == WAITING, true);
            int closer = step(x, CLOSER, 0);
            Op.dueRow(x, "whose sender failed first", joinsFirst, joinsSecond);
            for (int f : new int[] {first, second}) {
                Due.due("FAILED", x.state(f), FAILED);
                Due.due("at its SEND", x.of(f, 3), 0);
            }
            dueGoesOn(x, "the closer", closer, ON);
            Op.dueWaits(x, "no one", c);
            Due.due("what it holds stays", x.held(c, -1), capacity);
            for (int i = 0; i < capacity; i++) {
                Due.due("what it holds stays", x.held(c, i), 50 + i);
            }
            Due.due("closed", x.held(c, -2), capacity + 10);
        }
    }

    private static void closeWithElevenThatWait(int c) {
        for (int p : new int[] {SENDER, RECEIVER, CHOOSER}) {
            FibreDesk x = desk(c, 0);
            for (int f = 0; f < 11; f++) {
                x.start(p, 50 + f);
            }
            x.run(50);
            Due.due("eleven", x.waits(c, -1), 11);
            Due.due("the closer", step(x, CLOSER, 0), 11);
            Op.dueWaits(x, "no one", c);
            Op.dueWaits(x, "no one", other(c));
            for (int f = 0; f < 11; f++) {
                Due.due("state(" + f + ")", x.state(f), p == SENDER ? FAILED : READY);
                Due.due("of(" + f + ", 2)", x.of(f, 2), p == SENDER ? 0 : NOTHING);
                Due.due("row(" + f + ")", x.row(f), p == SENDER ? -1 : f);
            }
        }
    }

    private static void closeWithNobody(int c) {
        FibreDesk x = desk(c, 2);
        go(x, OTHER_SENDER, 70);
        go(x, SENDER, 60);
        int f = step(x, CLOSER, 0);
        dueGoesOn(x, "the closer", f, ON);
        Op.dueHeld(x, "stays", c, 60);
        for (int d = 0; d < 4; d++) {
            Due.due("held(" + d + ", -2)", x.held(d, -2), d == c ? 12 : 0);
        }
        Op.dueWaits(x, "at another one they wait on", other(c), 0);
    }

    private static void closeOfAClosedOne(int c) {
        FibreDesk x = desk(c, 2);
        go(x, SENDER, 60);
        go(x, CLOSER, 0);
        int f = step(x, CLOSER, 0);
        dueGoesOn(x, "the closer", f, ON);
        Due.due("closed as before", x.held(c, -2), 12);
        Op.dueHeld(x, "stays", c, 60);
    }

    private static void closedOneIsOpenedAgain(int c) {
        FibreDesk x = desk(c, 2);
        go(x, SENDER, 60);
        go(x, CLOSER, 0);
        Due.due("channel(" + c + ", 1)", x.channel(c, 1), true);
        int f = step(x, SENDER, 61);
        dueGoesOn(x, "the sender", f, ON);
        Op.dueHeld(x, "what came since", c, 61);
        x.run(20);
        go(x, RECEIVER, 0);
        f = step(x, RECEIVER, 0);
        dueWaits(x, "it waits, since the channel is not closed", f);
    }

    /** "fibres wait at it in the order in which they began to". */
    private static void waitingAgainIsAtTheEnd(int c) {
        FibreDesk x = desk(c, 0);
        Op.program(x, RECEIVER, Op.op(Op.RECEIVE, c, 2), Op.op(Op.JUMP, 0));
        x.start(RECEIVER, 0);
        x.start(RECEIVER, 0);
        x.start(RECEIVER, 0);
        x.run(20);
        Op.dueWaits(x, "three", c, 0, 1, 2);
        go(x, SENDER, 60);
        Op.dueWaits(x, "the first is the last", c, 1, 2, 0);
        go(x, SENDER, 61);
        Op.dueWaits(x, "the second is the last", c, 2, 0, 1);
        for (int f = 0; f < 3; f++) {
            Due.due("of(" + f + ", 2)", x.of(f, 2), f == 2 ? 0 : 60 + f);
        }
    }

    /** What a fibre waited for before, or one that had its number, does not count. */
    private static void waitingToReceiveAfterWaitingToSend(int c) {
        FibreDesk x = desk(c, 0);
        Op.program(x, CHOOSER, Op.op(Op.SEND, c, 0), Op.op(Op.RECEIVE, c, 2), Op.op(Op.END));
        go(x, CHOOSER, 60);
        go(x, RECEIVER, 0);
        Due.due("it waits to receive", x.of(0, 3), 1);
        Op.dueWaits(x, "it waits to receive", c, 0);
        int f = step(x, SENDER, 61);
        dueGoesOn(x, "the sender", f, ON);
        Due.due("what it got", x.of(0, 2), 61);
        FibreDesk y = desk(c, 0);
        go(y, SENDER, 60);
        go(y, CLOSER, 0);
        Due.due("FAILED", y.state(0), FAILED);
        Due.due("channel", y.channel(c, 1), true);
        go(y, RECEIVER, 0);
        Op.dueWaits(y, "a new one with its number", c, 0);
        step(y, SENDER, 61);
        Due.due("what it got", y.of(0, 2), 61);
        Op.dueHeld(y, "nothing", c);
    }
}

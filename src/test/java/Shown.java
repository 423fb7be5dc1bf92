import java.util.ArrayList;
import java.util.List;
import java.util.function.Consumer;
import java.util.function.ToIntFunction;

/** All that the calls of a desk show, and whether a call left it as it was. */
final class Shown {
    private Shown() {
    }

    /** What every call that only looks answers. */
    static List<String> all(FibreDesk x) {
        List<String> said = new ArrayList<>();
        said.add("time() " + x.time());
        for (int f = 0; f < 12; f++) {
            said.add("state(" + f + ") " + x.state(f));
            for (int what = 0; what < 6; what++) {
                said.add("of(" + f + ", " + what + ") " + x.of(f, what));
            }
        }
        for (int k = -1, most = x.row(-1); k < most; k++) {
            said.add("row(" + k + ") " + x.row(k));
        }
        for (int k = 0; k < 3; k++) {
            said.add("carrier(" + k + ") " + x.carrier(k));
        }
        for (int c = 0; c < 4; c++) {
            for (int k = -2; k < 3; k++) {
                said.add("held(" + c + ", " + k + ") " + x.held(c, k));
            }
            for (int k = -1, most = x.waits(c, -1); k < most; k++) {
                said.add("waits(" + c + ", " + k + ") " + x.waits(c, k));
            }
        }
        for (int k = -1; k < 16; k++) {
            said.add("out(" + k + ") " + x.out(k));
        }
        return said;
    }

    /** The draft, the programs and the slice cannot be looked at: they are seen by what comes of them. */
    private static List<String> later(FibreDesk x) {
        List<String> said = new ArrayList<>();
        said.add("program(5) " + x.program(5));
        said.add("code " + x.code(Op.OUT, 0, 0, 0));
        for (int p = 5; p >= 0; p--) {
            said.add("start(" + p + ", 7) " + x.start(p, 7));
        }
        for (int i = 0; i < 5; i++) {
            said.add("run(1) " + x.run(1) + ", carrier(0) " + x.carrier(0) + ", row(0) " + x.row(0));
        }
        said.add("run(40) " + x.run(40));
        said.addAll(all(x));
        return said;
    }

    private static void dueSame(String where, List<String> got, List<String> want) {
        for (int i = 0; i < got.size() && i < want.size(); i++) {
            if (!got.get(i).equals(want.get(i))) {
                System.out.println(where + ": " + got.get(i) + ", without the call: " + want.get(i));
                break;
            }
        }
        Due.due(where, got.equals(want), true);
    }

    /** Of two desks with the same past one gets the call: what it answers, and that nothing else comes of it. */
    static void dueUnchanged(String call, int carriers, Consumer<FibreDesk> past, ToIntFunction<FibreDesk> made,
            int answer) {
        FibreDesk x = new FibreDesk(carriers);
        FibreDesk y = new FibreDesk(carriers);
        past.accept(x);
        past.accept(y);
        Due.due(call, made.applyAsInt(x), answer);
        dueSame("behind " + call, all(x), all(y));
        dueSame("long behind " + call, later(x), later(y));
    }

    /** The same on a desk where a fibre is in each state, numbers are held, one channel is closed and the draft begun. */
    static void dueUnchanged(String call, ToIntFunction<FibreDesk> made, int answer) {
        dueUnchanged(call, 2, Shown::makeBusy, made, answer);
    }

    static int number(boolean answer) {
        return answer ? 1 : 0;
    }

    /**
     * Fibres 0 to 2 go round for ever, 3 FAILED, 4 is DONE, 5 SLEEPING, 6 waits to SEND at channel 1,
     * 7 to CHOOSE at channels 0 and 3, 8 to JOIN 5; there is no program 5, and the draft has two instructions.
     */
    static void makeBusy(FibreDesk x) {
        x.channel(1, 2);
        x.channel(2, 3);
        x.slice(3);
        Op.program(x, 0, Op.op(Op.ADD, 1, 0), Op.op(Op.JUMP, 0));
        Op.program(x, 1, Op.op(Op.OUT, 0), Op.op(Op.SLEEP, 0), Op.op(Op.OUT, 0));
        Op.program(x, 2, Op.op(Op.ZERO, 0, 2), Op.op(Op.JOIN, 0, 1), Op.op(Op.CHOOSE, 0, 3, 2), Op.op(Op.OUT, 2));
        Op.program(x, 3, Op.op(Op.SEND, 1, 0), Op.op(Op.SEND, 1, 1), Op.op(Op.SEND, 1, 0));
        Op.program(x, 4, Op.op(Op.SEND, 2, 0), Op.op(Op.CLOSE, 2), Op.op(Op.SEND, 2, 0));
        int[][] programAndRegister = {{0, 1}, {0, 2}, {0, 3}, {4, 44}, {1, 1}, {1, 31}, {3, 33}, {2, 0}, {2, 5}};
        for (int[] pair : programAndRegister) {
            x.start(pair[0], pair[1]);
        }
        x.run(34);
        x.code(Op.SET, 1, 5, 0);
        x.code(Op.OUT, 1, 0, 0);
    }

    /** That the busy desk is what its comment says. */
    static void dueBusy() {
        FibreDesk x = new FibreDesk(2);
        makeBusy(x);
        int[] counts = new int[7];
        for (int f = 0; f < 12; f++) {
            counts[x.state(f)]++;
        }
        int[] want = {3, 1, 2, 3, 1, 1, 1};
        for (int state = 0; state < 7; state++) {
            Due.due("busy: fibres in state " + state, counts[state], want[state]);
        }
        int[] states = {6, 5, 4, 3, 3, 3, 0, 0, 0};
        for (int f = 3; f < 12; f++) {
            Due.due("busy: state(" + f + ")", x.state(f), states[f - 3]);
        }
        Op.dueHeld(x, "busy", 1, 33, 0);
        Op.dueHeld(x, "busy", 2, 44);
        Due.due("busy: closed", x.held(2, -2), 13);
        Op.dueWaits(x, "busy", 0, 7);
        Op.dueWaits(x, "busy", 1, 6);
        Op.dueWaits(x, "busy", 3, 7);
        Due.due("busy: at its JOIN", x.of(8, 3), 1);
        Op.dueOut(x, "busy", 1, 31, 1);
    }
}

/** Names for the instructions of the document, and a short way to hand over a whole program. */
final class Op {
    static final int SET = 0, ADD = 1, JUMP = 2, ZERO = 3, YIELD = 4, SLEEP = 5, SEND = 6;
    static final int RECEIVE = 7, CHOOSE = 8, START = 9, JOIN = 10, CLOSE = 11, OUT = 12, END = 13;

    private Op() {
    }

    /** One row for each instruction: op, then its operands; those left out are 0. */
    static void program(FibreDesk x, int p, int[]... rows) {
        for (int i = 0; i < rows.length; i++) {
            int[] full = java.util.Arrays.copyOf(rows[i], 4);
            Due.due("code of program " + p, x.code(full[0], full[1], full[2], full[3]), i + 1);
        }
        Due.due("program(" + p + ")", x.program(p), rows.length);
    }

    static int[] op(int... row) {
        return row;
    }

    /** The row of READY fibres is exactly this. */
    static void dueRow(FibreDesk x, String where, int... fibres) {
        Due.due(where + ": row(-1)", x.row(-1), fibres.length);
        for (int k = 0; k < fibres.length; k++) {
            Due.due(where + ": row(" + k + ")", x.row(k), fibres[k]);
        }
        Due.due(where + ": row behind its end", x.row(fibres.length), FibreDesk.REFUSED);
    }

    /** Exactly these fibres wait at the channel. */
    static void dueWaits(FibreDesk x, String where, int c, int... fibres) {
        Due.due(where + ": waits(" + c + ", -1)", x.waits(c, -1), fibres.length);
        for (int k = 0; k < fibres.length; k++) {
            Due.due(where + ": waits(" + c + ", " + k + ")", x.waits(c, k), fibres[k]);
        }
        Due.due(where + ": waits behind its end", x.waits(c, fibres.length), FibreDesk.REFUSED);
    }

    /** The channel holds exactly these numbers. */
    static void dueHeld(FibreDesk x, String where, int c, int... numbers) {
        Due.due(where + ": held(" + c + ", -1)", x.held(c, -1), numbers.length);
        for (int k = 0; k < numbers.length; k++) {
            Due.due(where + ": held(" + c + ", " + k + ")", x.held(c, k), numbers[k]);
        }
        Due.due(where + ": held behind its end", x.held(c, numbers.length), FibreDesk.REFUSED - 1);
    }

    /** These numbers were put OUT, the earliest first. */
    static void dueOut(FibreDesk x, String where, int... numbers) {
        Due.due(where + ": out(-1)", x.out(-1), numbers.length);
        for (int k = 0; k < numbers.length && k < 16; k++) {
            Due.due(where + ": out(" + k + ")", x.out(k), numbers[numbers.length - 1 - k]);
        }
    }
}

/** Promises 14 and 15: out and time. */
public final class OutTest {
    private static final int MIN = Integer.MIN_VALUE, MAX = Integer.MAX_VALUE;

    public static void main(String[] args) {
        outKeepsSixteen();
        manyOuts();
        time();
        Due.end();
    }

    private static void outKeepsSixteen() {
        FibreDesk x = new FibreDesk(1);
        Op.program(x, 0, Op.op(Op.OUT, 0));
        for (int i = 1; i <= 40; i++) {
            Due.due("start", x.start(0, 100 + i), 0);
            Due.due("run(9)", x.run(9), 2);
            Due.due("how many", x.out(-1), i);
            Due.due("the latest", x.out(0), 100 + i);
            Due.due("out(15)", x.out(15), i > 15 ? 85 + i : 0);
            Due.due("out(16)", x.out(16), 0);
        }
        for (int k = 0; k < 16; k++) {
            Due.due("out(" + k + ")", x.out(k), 140 - k);
        }
        for (int k : new int[] {MIN, -2, 16, 17, 39, MAX}) {
            Due.due("out(" + k + ")", x.out(k), 0);
        }
    }

    private static void manyOuts() {
        FibreDesk x = new FibreDesk(3);
        Op.program(x, 0, Op.op(Op.OUT, 0), Op.op(Op.JUMP, 0));
        x.start(0, 7);
        x.start(0, 8);
        x.start(0, 9);
        for (int i = 1; i <= 200; i++) {
            Due.due("run(2000)", x.run(2000), 6000);
        }
        Due.due("out(-1)", x.out(-1), 600000);
        Due.due("out(0)", x.out(0), 9);
        Due.due("out(1)", x.out(1), 8);
        Due.due("out(2)", x.out(2), 7);
        Due.due("time()", x.time(), 400000);
    }

    private static void time() {
        FibreDesk x = new FibreDesk(1);
        Op.program(x, 0, Op.op(Op.SLEEP, 0));
        x.start(0, 4);
        for (int t = 1; t <= 5; t++) {
            x.run(1);
            Due.due("time()", x.time(), t);
        }
        x.run(1);
        Due.due("it stands when none goes on", x.time(), 5);
    }
}

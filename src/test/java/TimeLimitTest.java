/**
 * Promise 7: "REFUSED .. if time would be above 100000000 (with all n)". The 512 calls that the document speaks of
 * cannot reach that time, so this test makes more of them, and holds this class to its limit all the same.
 */
public final class TimeLimitTest {
    private static final int LIMIT = 100000000, MOST = 2000;

    public static void main(String[] args) {
        FibreDesk x = new FibreDesk(1);
        x.channel(0, 1);
        Op.program(x, 0, Op.op(Op.SEND, 0, 0), Op.op(Op.RECEIVE, 0, 1), Op.op(Op.JUMP, 0));
        Op.program(x, 1, Op.op(Op.CLOSE, 0));
        x.start(0, 0);
        for (int i = 1; i < LIMIT / MOST; i++) {
            x.run(MOST);
        }
        nearTheLimit(x);
        nearTheLimitWithNobodyAtWork(x);
        atTheLimit(x);
        Due.end();
    }

    private static void dueRefused(FibreDesk x, int n) {
        int time = x.time();
        int next = x.of(0, 3);
        int carrier = x.carrier(0);
        Due.due("run(" + n + ") at " + time, x.run(n), -1);
        Due.due("time()", x.time(), time);
        Due.due("of(0, 3)", x.of(0, 3), next);
        Due.due("carrier(0)", x.carrier(0), carrier);
    }

    private static void nearTheLimit(FibreDesk x) {
        Due.due("time()", x.time(), LIMIT - MOST);
        Due.due("run(1)", x.run(1), 1);
        dueRefused(x, MOST);
        Due.due("run(1979)", x.run(1979), 1979);
        for (int n : new int[] {21, 22, 1000, MOST}) {
            dueRefused(x, n);
        }
    }

    /** "(with all n)": also if fewer ticks would come of it. */
    private static void nearTheLimitWithNobodyAtWork(FibreDesk x) {
        Due.due("start(1, 0)", x.start(1, 0), 1);
        dueRefused(x, 21);
        Due.due("run(20)", x.run(20) > 0, true);
        int left = LIMIT - x.time();
        Due.due("it FAILED before the limit", x.state(0) == 6 && left > 0, true);
        dueRefused(x, left + 1);
        dueRefused(x, MOST);
        Due.due("run(" + left + ")", x.run(left), 0);
        Due.due("time()", x.time(), LIMIT - left);
    }

    private static void atTheLimit(FibreDesk x) {
        int left = LIMIT - x.time();
        x.channel(0, 1);
        Due.due("start(0, 0)", x.start(0, 0), 0);
        dueRefused(x, left + 1);
        Due.due("run(" + left + ")", x.run(left), left);
        Due.due("time()", x.time(), LIMIT);
        dueRefused(x, 1);
        dueRefused(x, MOST);
        Due.due("run(0)", x.run(0), 0);
    }
}

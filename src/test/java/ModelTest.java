import java.util.Random;

/** Many runs of calls, drawn from fixed seeds, on the class and on the model of it. */
public final class ModelTest {
    private static final int OBJECTS = 12000, MOST_CALLS = 512;

    private final FibreDesk x;
    private final Model m;
    private final Random random;
    private final long seed;
    // Of the four channels three are in use, so that fibres meet there more often.
    private final boolean channelsFromOneOn;
    private int calls = 0;

    private ModelTest(long seed) {
        this.seed = seed;
        random = new Random(seed);
        channelsFromOneOn = random.nextBoolean();
        int carriers = random.nextInt(6) - 1;
        x = new FibreDesk(carriers);
        m = new Model(carriers);
    }

    public static void main(String[] args) {
        for (long seed = 1; seed <= OBJECTS && Due.wrong() < 20; seed++) {
            ModelTest test = new ModelTest(seed);
            test.setUp();
            while (test.calls < 270) {
                test.anyCall();
            }
            test.lookAtAll();
            if (test.calls > MOST_CALLS) {
                throw new IllegalStateException("more calls than the document speaks of: " + test.calls);
            }
        }
        Due.end();
    }

    private void due(String call, long got, long want) {
        calls++;
        Due.due("seed " + seed + ", call " + calls + ": " + call, got, want);
    }

    private void due(String call, boolean got, boolean want) {
        due(call, got ? 1 : 0, want ? 1 : 0);
    }

    private void setUp() {
        for (int p = 0; p < 6; p++) {
            if (random.nextInt(8) > 0) {
                write(p);
            }
        }
        for (int c = 0; c < 4; c++) {
            channel(c, random.nextInt(4));
        }
        slice(1 + random.nextInt(8));
        int fibres = 1 + random.nextInt(10);
        for (int i = 0; i < fibres; i++) {
            start(random.nextInt(6), anyNumber());
        }
    }

    private void write(int p) {
        int length = 1 + random.nextInt(10);
        for (int i = 0; i < length; i++) {
            code(anyOp());
        }
        program(p);
    }

    /** More of what fibres do to one another than of the rest; a CLOSE only now and then. */
    private int anyOp() {
        int[] often = {0, 1, 2, 3, 4, 5, 6, 6, 6, 7, 7, 7, 8, 8, 9, 9, 10, 10, 12, 13};
        return random.nextInt(25) == 0 ? Op.CLOSE : often[random.nextInt(often.length)];
    }

    private void code(int op) {
        int a = random.nextInt(3);
        int b = random.nextInt(3);
        int c = random.nextInt(3);
        if (channelsFromOneOn && (op == Op.SEND || op == Op.RECEIVE || op == Op.CHOOSE || op == Op.CLOSE)) {
            a++;
            b += op == Op.CHOOSE ? 1 : 0;
        }
        if (op == Op.SET) {
            b = anyNumber();
        } else if (op == Op.JUMP) {
            a = random.nextInt(13);
        } else if (op == Op.ZERO) {
            b = random.nextInt(13);
        } else if (op == Op.START) {
            a = random.nextInt(6);
        }
        if (random.nextInt(40) == 0) {
            a = random.nextInt(16) - 2;
        }
        if (random.nextInt(40) == 0) {
            b = random.nextInt(16) - 2;
        }
        due("code(" + op + ", " + a + ", " + b + ", " + c + ")", x.code(op, a, b, c), m.code(op, a, b, c));
    }

    private int anyNumber() {
        return random.nextInt(10) == 0 ? random.nextInt() : random.nextInt(14) - 1;
    }

    private void program(int p) {
        due("program(" + p + ")", x.program(p), m.program(p));
    }

    private void channel(int c, int capacity) {
        due("channel(" + c + ", " + capacity + ")", x.channel(c, capacity), m.channel(c, capacity));
    }

    private void slice(int n) {
        due("slice(" + n + ")", x.slice(n), m.slice(n));
    }

    private void start(int p, int v) {
        due("start(" + p + ", " + v + ")", x.start(p, v), m.start(p, v));
    }

    private void run(int n) {
        due("run(" + n + ")", x.run(n), m.run(n));
    }

    private void anyCall() {
        int f = random.nextInt(14) - 1;
        int c = random.nextInt(6) - 1;
        int k = random.nextInt(7) - 3;
        switch (random.nextInt(20)) {
            case 0 -> code(random.nextInt(16) - 1);
            case 1 -> program(random.nextInt(8) - 1);
            case 2 -> channel(c, random.nextInt(6) - 1);
            case 3 -> slice(random.nextInt(11) - 1);
            case 4, 5, 6 -> start(random.nextInt(7) - (random.nextInt(6) == 0 ? 1 : 0), anyNumber());
            case 7, 8, 9, 10 -> run(random.nextInt(4));
            case 11 -> run(random.nextInt(60) - 1);
            case 12 -> due("state(" + f + ")", x.state(f), m.state(f));
            case 13 -> due("of(" + f + ", " + k + ")", x.of(f, k), m.of(f, k));
            case 14 -> due("row(" + k + ")", x.row(k), m.row(k));
            case 15 -> due("carrier(" + k + ")", x.carrier(k), m.carrier(k));
            case 16 -> due("held(" + c + ", " + k + ")", x.held(c, k), m.held(c, k));
            case 17 -> due("waits(" + c + ", " + k + ")", x.waits(c, k), m.waits(c, k));
            case 18 -> due("out(" + k + ")", x.out(k), m.out(k));
            default -> due("time()", x.time(), m.time());
        }
    }

    private void lookAtAll() {
        for (int f = 0; f < 12; f++) {
            due("state(" + f + ")", x.state(f), m.state(f));
            for (int what = 0; what < 6; what++) {
                due("of(" + f + ", " + what + ")", x.of(f, what), m.of(f, what));
            }
        }
        for (int k = -1; k <= m.row(-1); k++) {
            due("row(" + k + ")", x.row(k), m.row(k));
        }
        for (int k = 0; k < 3; k++) {
            due("carrier(" + k + ")", x.carrier(k), m.carrier(k));
        }
        for (int c = 0; c < 4; c++) {
            for (int k = -2; k <= m.held(c, -1); k++) {
                due("held(" + c + ", " + k + ")", x.held(c, k), m.held(c, k));
            }
            for (int k = -1; k <= m.waits(c, -1); k++) {
                due("waits(" + c + ", " + k + ")", x.waits(c, k), m.waits(c, k));
            }
        }
        for (int k = -1; k <= 16; k++) {
            due("out(" + k + ")", x.out(k), m.out(k));
        }
        due("time()", x.time(), m.time());
    }
}

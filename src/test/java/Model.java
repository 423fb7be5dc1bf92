import java.util.ArrayDeque;
import java.util.ArrayList;
import java.util.Comparator;
import java.util.List;

/**
 * The document once more, with the Java library and in another shape: who waits where is not kept
 * in rows but found from what each fibre is about to do and since when it waits.
 */
final class Model {
    private static final int NOTHING = -1000000;

    private static final class Fibre {
        int number;
        int state;
        int program;
        int next;
        int[] registers = new int[3];
        int wakesAt;
        long since;
    }

    private static final class Channel {
        int capacity;
        boolean closed;
        final List<Integer> numbers = new ArrayList<>();
    }

    private final List<List<int[]>> programs = new ArrayList<>();
    private List<int[]> draft = new ArrayList<>();
    private final List<Fibre> fibres = new ArrayList<>();
    private final Channel[] channels = new Channel[4];
    private final ArrayDeque<Fibre> row = new ArrayDeque<>();
    private final Fibre[] carriers;
    private final int[] done;
    private final List<Integer> outs = new ArrayList<>();
    private int slice = 4;
    private int time = 0;
    private long clock = 0;

    Model(int carriers) {
        this.carriers = new Fibre[Math.max(1, Math.min(3, carriers))];
        done = new int[this.carriers.length];
        for (int p = 0; p < 6; p++) {
            programs.add(new ArrayList<>());
        }
        for (int f = 0; f < 12; f++) {
            fibres.add(new Fibre());
            fibres.get(f).number = f;
        }
        for (int c = 0; c < 4; c++) {
            channels[c] = new Channel();
        }
    }

    /** What each operand of an op is: r a register, c a channel, p a program, t a target, . not looked at. */
    private static final String[] OPERANDS = {
        "r..", "rr.", "t..", "rt.", "...", "r..", "cr.", "cr.", "ccr", "pr.", "rr.", "c..", "r..", "..."};

    int code(int op, int a, int b, int c) {
        if (op < 0 || op > 13 || draft.size() == 12) {
            return -1;
        }
        int[] operands = {a, b, c};
        for (int i = 0; i < 3; i++) {
            int most = switch (OPERANDS[op].charAt(i)) {
                case 'r' -> 2;
                case 'c' -> 3;
                case 'p' -> 5;
                case 't' -> 12;
                default -> -1;
            };
            if (most >= 0 && (operands[i] < 0 || operands[i] > most)) {
                return -1;
            }
        }
        draft.add(new int[] {op, a, b, c});
        return draft.size();
    }

    int program(int p) {
        if (p < 0 || p > 5 || fibres.stream().anyMatch(f -> f.state >= 1 && f.state <= 4 && f.program == p)) {
            return -1;
        }
        programs.set(p, draft);
        draft = new ArrayList<>();
        return programs.get(p).size();
    }

    boolean channel(int c, int capacity) {
        if (c < 0 || c > 3 || capacity < 0 || capacity > 3 || !waiting(c).isEmpty()) {
            return false;
        }
        channels[c] = new Channel();
        channels[c].capacity = capacity;
        return true;
    }

    boolean slice(int n) {
        boolean fits = n >= 1 && n <= 8;
        slice = fits ? n : slice;
        return fits;
    }

    int start(int p, int v) {
        if (p < 0 || p > 5 || programs.get(p).isEmpty()) {
            return -1;
        }
        for (Fibre f : fibres) {
            if (f.state == 0 || f.state >= 5) {
                f.program = p;
                f.next = 0;
                f.registers = new int[] {v, 0, 0};
                toRow(f);
                return f.number;
            }
        }
        return -1;
    }

    int run(int n) {
        if (n < 0 || n > 2000 || (long) time + n > 100000000L) {
            return -1;
        }
        int count = 0;
        for (int i = 0; i < n; i++) {
            if (fibres.stream().noneMatch(f -> f.state == 1 || f.state == 2 || f.state == 4)) {
                break;
            }
            count += tick();
        }
        return count;
    }

    private int tick() {
        time++;
        int count = 0;
        fibres.stream().filter(f -> f.state == 4 && f.wakesAt == time).forEach(this::toRow);
        for (int k = 0; k < carriers.length; k++) {
            if (carriers[k] == null && !row.isEmpty()) {
                carriers[k] = row.removeFirst();
                carriers[k].state = 2;
                done[k] = 0;
            }
            Fibre f = carriers[k];
            if (f == null) {
                continue;
            }
            boolean yields = instruction(f)[0] == Op.YIELD;
            perform(f, instruction(f));
            count++;
            done[k]++;
            if (f.state == 2 && (yields || done[k] >= slice)) {
                toRow(f);
            }
            if (f.state != 2) {
                carriers[k] = null;
            }
        }
        return count;
    }

    private int[] instruction(Fibre f) {
        List<int[]> program = programs.get(f.program);
        return f.next < program.size() ? program.get(f.next) : new int[] {Op.END, 0, 0, 0};
    }

    private void perform(Fibre f, int[] i) {
        int[] r = f.registers;
        int behind = f.next + 1;
        switch (i[0]) {
            case Op.SET -> r[i[1]] = i[2];
            case Op.ADD -> r[i[1]] += r[i[2]];
            case Op.JUMP -> behind = i[1];
            case Op.ZERO -> behind = r[i[1]] == 0 ? i[2] : behind;
            case Op.SLEEP -> {
                f.state = 4;
                f.wakesAt = time + Math.max(1, Math.floorMod(r[i[1]], 32));
            }
            case Op.SEND -> send(f, channels[i[1]], i[1], r[i[2]]);
            case Op.RECEIVE, Op.CHOOSE -> {
                int second = i[0] == Op.CHOOSE ? i[2] : i[1];
                int into = i[0] == Op.CHOOSE ? i[3] : i[2];
                if (!wouldWait(i[1])) {
                    r[into] = receive(i[1]);
                } else if (!wouldWait(second)) {
                    r[into] = receive(second);
                } else {
                    waitFromNow(f);
                }
            }
            case Op.START -> r[i[2]] = start(i[1], r[i[2]]);
            case Op.JOIN -> {
                Fibre other = r[i[1]] >= 0 && r[i[1]] < 12 ? fibres.get(r[i[1]]) : null;
                if (other == null || other == f || other.state == 0 || other.state == 6) {
                    r[i[2]] = NOTHING;
                } else if (other.state == 5) {
                    r[i[2]] = other.registers[0];
                } else {
                    waitFromNow(f);
                }
            }
            case Op.CLOSE -> close(i[1]);
            case Op.OUT -> outs.add(r[i[1]]);
            case Op.END -> end(f, 5);
            default -> { }
        }
        if (f.state == 2 || f.state == 4) {
            f.next = behind;
        }
    }

    private void send(Fibre f, Channel channel, int c, int number) {
        List<Fibre> receivers = receivers(c);
        if (channel.closed) {
            end(f, 6);
        } else if (!receivers.isEmpty()) {
            goOnWith(receivers.get(0), number);
        } else if (channel.numbers.size() < channel.capacity) {
            channel.numbers.add(number);
        } else {
            waitFromNow(f);
        }
    }

    private boolean wouldWait(int c) {
        return channels[c].numbers.isEmpty() && senders(c).isEmpty() && !channels[c].closed;
    }

    private int receive(int c) {
        List<Fibre> senders = senders(c);
        if (!senders.isEmpty()) {
            Fibre sender = senders.get(0);
            channels[c].numbers.add(sender.registers[instruction(sender)[2]]);
            sender.next++;
            toRow(sender);
        }
        return channels[c].numbers.isEmpty() ? NOTHING : channels[c].numbers.remove(0);
    }

    private void close(int c) {
        channels[c].closed = true;
        for (Fibre f : waiting(c)) {
            if (instruction(f)[0] == Op.SEND) {
                end(f, 6);
            } else {
                goOnWith(f, NOTHING);
            }
        }
    }

    private void end(Fibre f, int state) {
        f.state = state;
        for (Fibre j : fibres) {
            int[] i = instruction(j);
            if (j.state == 3 && i[0] == Op.JOIN && j.registers[i[1]] == f.number) {
                goOnWith(j, state == 5 ? f.registers[0] : NOTHING);
            }
        }
    }

    private void goOnWith(Fibre f, int number) {
        int[] i = instruction(f);
        f.registers[i[0] == Op.CHOOSE ? i[3] : i[2]] = number;
        f.next++;
        toRow(f);
    }

    private void toRow(Fibre f) {
        f.state = 1;
        row.addLast(f);
    }

    private void waitFromNow(Fibre f) {
        f.state = 3;
        f.since = clock++;
    }

    private List<Fibre> waiting(int c) {
        List<Fibre> found = new ArrayList<>(senders(c));
        found.addAll(receivers(c));
        found.sort(Comparator.comparingLong(f -> f.since));
        return found;
    }

    private List<Fibre> senders(int c) {
        return fibres.stream().filter(f -> f.state == 3 && instruction(f)[0] == Op.SEND && instruction(f)[1] == c)
                .sorted(Comparator.comparingLong(f -> f.since)).toList();
    }

    private List<Fibre> receivers(int c) {
        return fibres.stream().filter(f -> f.state == 3 && receivesFrom(instruction(f), c))
                .sorted(Comparator.comparingLong(f -> f.since)).toList();
    }

    private static boolean receivesFrom(int[] i, int c) {
        return i[0] == Op.RECEIVE && i[1] == c || i[0] == Op.CHOOSE && (i[1] == c || i[2] == c);
    }

    int state(int f) {
        return f < 0 || f > 11 ? -1 : fibres.get(f).state;
    }

    int of(int f, int what) {
        if (f < 0 || f > 11 || fibres.get(f).state == 0) {
            return -1;
        }
        Fibre found = fibres.get(f);
        return switch (what) {
            case 0, 1, 2 -> found.registers[what];
            case 3 -> found.next;
            case 4 -> found.program;
            case 5 -> found.state == 4 ? found.wakesAt - time : -1;
            default -> -1;
        };
    }

    int row(int k) {
        List<Integer> numbers = row.stream().map(f -> f.number).toList();
        return at(numbers, k, -1);
    }

    int carrier(int k) {
        return k < 0 || k >= carriers.length || carriers[k] == null ? -1 : carriers[k].number;
    }

    int held(int c, int k) {
        if (c < 0 || c > 3) {
            return -2;
        }
        return k == -2 ? channels[c].capacity + (channels[c].closed ? 10 : 0) : at(channels[c].numbers, k, -2);
    }

    int waits(int c, int k) {
        return c < 0 || c > 3 ? -1 : at(waiting(c).stream().map(f -> f.number).toList(), k, -1);
    }

    int out(int k) {
        if (k == -1) {
            return outs.size();
        }
        return k < 0 || k > 15 || k >= outs.size() ? 0 : outs.get(outs.size() - 1 - k);
    }

    int time() {
        return time;
    }

    /** The k-th of a list, its size for -1, or else what stands for none. */
    private static int at(List<Integer> list, int k, int none) {
        return k == -1 ? list.size() : k < 0 || k >= list.size() ? none : list.get(k);
    }
}

import java.util.ArrayDeque;
import java.util.ArrayList;
import java.util.Arrays;
import java.util.HashMap;
import java.util.List;
import java.util.Map;
import java.util.NoSuchElementException;

/**
 * The document in its slowest reading: single bits, single minor cycles, tokens in a list. It shares
 * no line with the class under test, so that random runs of both find slips of either.
 */
public final class ReferenceStore {
    private static final List<String> NAMES = Arrays.asList(
            "stop", "load", "store", "add", "sub", "and", "xor", "mul",
            "shl", "shr", "jneg", "jzero", "jover", "in", "out", "count");

    private static final class State {
        boolean[][] bits = new boolean[8][640];
        long[] slips = new long[8];
        long[] temperatures = new long[8];
        long dropouts;
        long pilot = 400;
        long oven = 400;
        long fixed = 1000000;
        boolean pilotOn;
        long time;
        long waited;
        long executed;
        long[][] executedAt = new long[8][32];
        int accumulator;
        boolean overflow;
        int tank;
        int cycle;
        int state = 1;
        ArrayDeque<Integer> input = new ArrayDeque<>();
        ArrayDeque<Integer> output = new ArrayDeque<>();

        State() {
            Arrays.fill(temperatures, 400);
        }

        State copy() {
            State c = new State();
            for (int t = 0; t < 8; t++) {
                c.bits[t] = bits[t].clone();
                c.executedAt[t] = executedAt[t].clone();
            }
            c.slips = slips.clone();
            c.temperatures = temperatures.clone();
            c.dropouts = dropouts;
            c.pilot = pilot;
            c.oven = oven;
            c.fixed = fixed;
            c.pilotOn = pilotOn;
            c.time = time;
            c.waited = waited;
            c.executed = executed;
            c.accumulator = accumulator;
            c.overflow = overflow;
            c.tank = tank;
            c.cycle = cycle;
            c.state = state;
            c.input = new ArrayDeque<>(input);
            c.output = new ArrayDeque<>(output);
            return c;
        }

        static long delay(long temperature) {
            return 640000000L + 19200L * (temperature - 400L);
        }

        long period() {
            return pilotOn ? Math.floorDiv(delay(pilot), 640L) : fixed;
        }

        long mismatchAt(long temperature) {
            return delay(temperature) - 640L * period();
        }

        boolean safeAt(long temperature) {
            return Math.abs(mismatchAt(temperature)) <= Math.floorDiv(period(), 4L);
        }

        int word(int t, int c) {
            int value = 0;
            for (int i = 0; i < 19; i++) {
                value += bits[t][20 * c + i] ? 1 << i : 0;
            }
            return value - (bits[t][20 * c + 19] ? 524288 : 0);
        }

        void setWord(int t, int c, int value) {
            for (int i = 0; i < 20; i++) {
                bits[t][20 * c + i] = (value >> i & 1) == 1;
            }
        }

        void tick(long n) {
            for (long i = 0; i < n; i++) {
                time++;
                if (time % 32 == 0) {
                    endMajor();
                }
            }
        }

        void endMajor() {
            for (int t = 0; t < 8; t++) {
                long p = period();
                long e = mismatchAt(temperatures[t]);
                long k = Math.floorDiv(e + Math.floorDiv(p, 2L), p);
                boolean[] moved = new boolean[640];
                for (int x = 0; x < 640; x++) {
                    moved[(int) Math.floorMod(x + k, 640L)] = bits[t][x];
                }
                bits[t] = moved;
                slips[t] += Math.abs(k);
                long r = e - k * p;
                if (Math.abs(r) > Math.floorDiv(p, 4L)) {
                    int position = (int) ((7 * (time / 32) + t) % 640);
                    dropouts += moved[position] ? 1 : 0;
                    moved[position] = false;
                }
            }
            for (int t = 0; t < 8; t++) {
                temperatures[t] += (oven - temperatures[t]) / 8;
            }
            pilot += (oven - pilot) / 8;
        }

        void await(int wanted) {
            while (time % 32 != wanted) {
                tick(1);
                waited++;
            }
        }

        void result(long exact) {
            accumulator = wrap(exact);
            overflow |= accumulator != exact;
        }

        boolean step() {
            int atTank = tank;
            int atCycle = cycle;
            await(cycle);
            int w = word(tank, cycle);
            tick(1);
            int op = w & 15;
            int ot = w >> 4 & 7;
            int oc = w >> 7 & 31;
            int nt = w >> 12 & 7;
            int nc = w >> 15 & 31;
            switch (NAMES.get(op)) {
                case "stop": state = 1; break;
                case "load": await(oc); accumulator = word(ot, oc); tick(1); break;
                case "store": await(oc); setWord(ot, oc, accumulator); tick(1); break;
                case "add": await(oc); result((long) accumulator + word(ot, oc)); tick(1); break;
                case "sub": await(oc); result((long) accumulator - word(ot, oc)); tick(1); break;
                case "and": await(oc); accumulator = accumulator & word(ot, oc); tick(1); break;
                case "xor": await(oc); accumulator = accumulator ^ word(ot, oc); tick(1); break;
                case "mul": await(oc); result((long) accumulator * word(ot, oc)); tick(1); tick(20); break;
                case "shl": accumulator = wrap(accumulator * (1L << oc)); tick(1 + oc); break;
                case "shr": accumulator = (int) Math.floorDiv((long) accumulator, 1L << oc); tick(1 + oc); break;
                case "jneg": tick(1); if (accumulator < 0) { nt = ot; nc = oc; } break;
                case "jzero": tick(1); if (accumulator == 0) { nt = ot; nc = oc; } break;
                case "jover": tick(1); if (overflow) { nt = ot; nc = oc; overflow = false; } break;
                case "in":
                    if (input.isEmpty()) { state = 2; return false; }
                    accumulator = input.removeFirst(); tick(1); break;
                case "out":
                    if (output.size() == 64) { state = 3; return false; }
                    output.addLast(accumulator); tick(1); break;
                default:
                    await(oc);
                    int v = wrap(word(ot, oc) - 1L);
                    accumulator = v;
                    tick(32);
                    setWord(ot, oc, v);
                    tick(1);
            }
            tank = nt;
            cycle = nc;
            executed++;
            executedAt[atTank][atCycle]++;
            return true;
        }

        int run(int count) {
            int done = 0;
            while (done < count && state == 0) {
                done += step() ? 1 : 0;
            }
            return done;
        }
    }

    private State s = new State();
    private final Map<Integer, State> saved = new HashMap<>();
    private List<Integer> text = new ArrayList<>();
    private int errorCode;
    private int errorPosition = -1;
    private String formatted = "";

    private static int wrap(long value) {
        long low = Math.floorMod(value, 1048576L);
        return (int) (low >= 524288 ? low - 1048576 : low);
    }

    private static void bound(long value, long least, long greatest) {
        if (value < least || value > greatest) {
            throw new IndexOutOfBoundsException();
        }
    }

    private static void argument(long value, long least, long greatest) {
        if (value < least || value > greatest) {
            throw new IllegalArgumentException();
        }
    }

    private static void place(int tank, int cycle) {
        bound(tank, 0, 7);
        bound(cycle, 0, 31);
    }

    public int append(int a, int b, int c, int d, int e) {
        if (text.size() + 20 > 600) {
            throw new IllegalStateException();
        }
        for (int quad : new int[] {a, b, c, d, e}) {
            text.add(quad >>> 24);
            text.add(quad >>> 16 & 255);
            text.add(quad >>> 8 & 255);
            text.add(quad & 255);
        }
        return text.size();
    }

    public int truncate(int length) {
        bound(length, 0, text.size());
        text = new ArrayList<>(text.subList(0, length));
        return length;
    }

    // ---- assembler: all tokens first, then the statements, errors as exceptions

    private static final class Wrong extends Exception {
        private static final long serialVersionUID = 1L;
        final int code;
        final int position;

        Wrong(int code, int position) {
            this.code = code;
            this.position = position;
        }
    }

    private static final class Token {
        final char kind;
        final String text;
        final int position;

        Token(char kind, String text, int position) {
            this.kind = kind;
            this.text = text;
            this.position = position;
        }
    }

    private static List<Token> tokens(String text) {
        List<Token> tokens = new ArrayList<>();
        java.util.regex.Matcher m = java.util.regex.Pattern
                .compile("([a-z]+)|([0-9]+)|([.;-])|([ \\n])|(.)", java.util.regex.Pattern.DOTALL).matcher(text);
        while (m.find()) {
            if (m.group(1) != null) {
                tokens.add(new Token('w', m.group(), m.start()));
            } else if (m.group(2) != null) {
                tokens.add(new Token(m.group().length() <= 6 ? 'n' : '?', m.group(), m.start()));
            } else if (m.group(3) != null) {
                tokens.add(new Token(m.group().charAt(0), m.group(), m.start()));
            } else if (m.group(5) != null) {
                tokens.add(new Token('?', m.group(), m.start()));
            }
        }
        tokens.add(new Token('$', "", text.length()));
        return tokens;
    }

    private final class Parser {
        final List<Token> tokens;
        final Map<Integer, Integer> written = new HashMap<>();
        int at;
        int place;
        int start = -1;

        Parser(String text) {
            tokens = tokens(text);
        }

        Token next(char kind) throws Wrong {
            Token token = tokens.get(at);
            if (token.kind != kind) {
                throw new Wrong(1, token.position);
            }
            at++;
            return token;
        }

        int number(int least, int greatest, int sign) throws Wrong {
            Token token = next('n');
            int value = sign * Integer.parseInt(token.text);
            if (value < least || value > greatest) {
                throw new Wrong(2, token.position);
            }
            return value;
        }

        int location() throws Wrong {
            int tank = number(0, 7, 1);
            next('.');
            return 32 * tank + number(0, 31, 1);
        }

        void program() throws Wrong {
            while (tokens.get(at).kind != '$') {
                statement();
                next(';');
            }
        }

        void statement() throws Wrong {
            Token first = next('w');
            if (first.text.equals("at")) {
                place = location();
                return;
            }
            if (first.text.equals("start")) {
                start = location();
                return;
            }
            int op = NAMES.indexOf(first.text);
            if (op < 0 && !first.text.equals("word")) {
                throw new Wrong(1, first.position);
            }
            if (written.containsKey(place)) {
                throw new Wrong(3, first.position);
            }
            int after = place / 32 * 32 + (place + 1) % 32;
            if (op < 0) {
                int sign = 1;
                if (tokens.get(at).kind == '-') {
                    at++;
                    sign = -1;
                }
                written.put(place, number(-524288, 524287, sign));
            } else {
                int operand = 0;
                if (op == 8 || op == 9) {
                    operand = number(0, 31, 1);
                } else if (op != 0 && op != 13 && op != 14) {
                    operand = location();
                }
                int target = after;
                if (tokens.get(at).text.equals("then")) {
                    at++;
                    target = location();
                }
                long word = op + 16L * (operand / 32) + 128L * (operand % 32)
                        + 4096L * (target / 32) + 32768L * (target % 32);
                written.put(place, wrap(word));
            }
            place = after;
        }
    }

    public int assemble() {
        StringBuilder string = new StringBuilder();
        for (int b : text) {
            string.append((char) b);
        }
        text = new ArrayList<>();
        Parser parser = new Parser(string.toString());
        try {
            parser.program();
        } catch (Wrong wrong) {
            errorCode = wrong.code;
            errorPosition = wrong.position;
            throw new IllegalArgumentException();
        }
        errorCode = 0;
        errorPosition = -1;
        parser.written.forEach((location, word) -> s.setWord(location / 32, location % 32, word));
        if (parser.start >= 0) {
            start(parser.start / 32, parser.start % 32);
        }
        return parser.written.size();
    }

    public int errorCode() {
        return errorCode;
    }

    public int errorPosition() {
        return errorPosition;
    }

    public int readWord(int tank, int cycle) {
        place(tank, cycle);
        return s.word(tank, cycle);
    }

    public int writeWord(int tank, int cycle, int value) {
        place(tank, cycle);
        argument(value, -524288, 524287);
        int old = s.word(tank, cycle);
        s.setWord(tank, cycle, value);
        return old;
    }

    public int clearTank(int tank) {
        int ones = bitCount(tank);
        s.bits[tank] = new boolean[640];
        return ones;
    }

    public void swapTanks(int first, int second) {
        bound(first, 0, 7);
        bound(second, 0, 7);
        boolean[] bits = s.bits[first];
        s.bits[first] = s.bits[second];
        s.bits[second] = bits;
        long number = s.temperatures[first];
        s.temperatures[first] = s.temperatures[second];
        s.temperatures[second] = number;
        number = s.slips[first];
        s.slips[first] = s.slips[second];
        s.slips[second] = number;
    }

    public int bitCount(int tank) {
        bound(tank, 0, 7);
        int ones = 0;
        for (boolean bit : s.bits[tank]) {
            ones += bit ? 1 : 0;
        }
        return ones;
    }

    public int slips(int tank) {
        bound(tank, 0, 7);
        return (int) s.slips[tank];
    }

    public int dropouts() {
        return (int) s.dropouts;
    }

    public int setTemperature(int tank, int temperature) {
        bound(tank, 0, 7);
        argument(temperature, 0, 1000);
        int old = (int) s.temperatures[tank];
        s.temperatures[tank] = temperature;
        return old;
    }

    public int temperature(int tank) {
        bound(tank, 0, 7);
        return (int) s.temperatures[tank];
    }

    public int setOven(int temperature) {
        argument(temperature, 0, 1000);
        int old = (int) s.oven;
        s.oven = temperature;
        return old;
    }

    public int setPilotTemperature(int temperature) {
        argument(temperature, 0, 1000);
        int old = (int) s.pilot;
        s.pilot = temperature;
        return old;
    }

    public boolean setPilot(boolean on) {
        boolean old = s.pilotOn;
        s.pilotOn = on;
        return old;
    }

    public int setFixedPeriod(int period) {
        argument(period, 900000, 1100000);
        int old = (int) s.fixed;
        s.fixed = period;
        return old;
    }

    public int period() {
        return (int) s.period();
    }

    public int mismatch(int tank) {
        bound(tank, 0, 7);
        return (int) s.mismatchAt(s.temperatures[tank]);
    }

    public int leastSafeTemperature() {
        int h = 0;
        while (h <= 1000 && !s.safeAt(h)) {
            h++;
        }
        return h > 1000 ? -1 : h;
    }

    public int greatestSafeTemperature() {
        int h = 1000;
        while (h >= 0 && !s.safeAt(h)) {
            h--;
        }
        return h;
    }

    private static boolean allSafe(State state) {
        return Arrays.stream(state.temperatures).allMatch(state::safeAt);
    }

    public int unsafeAfter() {
        State copy = s.copy();
        int ends = 0;
        while (allSafe(copy)) {
            if (ends == 200) {
                return -1;
            }
            copy.tick(32 - copy.time % 32);
            ends++;
        }
        return ends;
    }

    public void start(int tank, int cycle) {
        place(tank, cycle);
        s.tank = tank;
        s.cycle = cycle;
        s.state = 0;
    }

    public int run(int count) {
        argument(count, 1, 500);
        if (s.state != 0) {
            throw new IllegalStateException();
        }
        return s.run(count);
    }

    public int idle(int count) {
        argument(count, 1, 3200);
        s.tick(count);
        return (int) s.time;
    }

    public int time() {
        return (int) s.time;
    }

    public int state() {
        return s.state;
    }

    public int accumulator() {
        return s.accumulator;
    }

    public boolean hasOverflow() {
        return s.overflow;
    }

    public int location() {
        return 32 * s.tank + s.cycle;
    }

    public int offerInput(int value) {
        argument(value, -524288, 524287);
        if (s.input.size() == 64) {
            throw new IllegalStateException();
        }
        s.input.addLast(value);
        s.state = s.state == 2 ? 0 : s.state;
        return s.input.size();
    }

    public int takeOutput() {
        if (s.output.isEmpty()) {
            throw new NoSuchElementException();
        }
        s.state = s.state == 3 ? 0 : s.state;
        return s.output.removeFirst();
    }

    public int outputLength() {
        return s.output.size();
    }

    public int executed() {
        return (int) s.executed;
    }

    public int executedAt(int tank, int cycle) {
        place(tank, cycle);
        return (int) s.executedAt[tank][cycle];
    }

    public int waited() {
        return (int) s.waited;
    }

    public int predictTime(int count) {
        argument(count, 1, 500);
        if (s.state != 0) {
            throw new IllegalStateException();
        }
        State copy = s.copy();
        copy.run(count);
        return (int) (copy.time - s.time);
    }

    /** The time after an instruction that is read at a time: [time after it, next tank, next cycle, opcode]. */
    private int[] after(int tank, int cycle, int time) {
        int w = s.word(tank, cycle);
        int op = w & 15;
        int oc = w >> 7 & 31;
        int t = time + 1;
        if (op >= 1 && op <= 7 || op == 15) {
            while (t % 32 != oc) {
                t++;
            }
            t += op == 7 ? 21 : op == 15 ? 33 : 1;
        } else if (op == 8 || op == 9) {
            t += 1 + oc;
        } else if (op != 0) {
            t += 1;
        }
        return new int[] {t, w >> 12 & 7, w >> 15 & 31, op};
    }

    public int idealNextCycle(int tank, int cycle) {
        place(tank, cycle);
        return after(tank, cycle, cycle)[0] % 32;
    }

    public int pathTime(int tank, int cycle, int count) {
        place(tank, cycle);
        argument(count, 1, 200);
        int time = cycle;
        int[] at = {0, tank, cycle, 1};
        for (int i = 0; i < count; i++) {
            while (time % 32 != at[2]) {
                time++;
            }
            at = after(at[1], at[2], time);
            time = at[0];
            if (at[3] == 0) {
                break;
            }
        }
        return time - cycle;
    }

    public int bestFreeCycle(int tank, int cycle, int targetTank) {
        place(tank, cycle);
        bound(targetTank, 0, 7);
        int time = after(tank, cycle, cycle)[0];
        int best = -1;
        int least = 99;
        for (int c = 0; c < 32; c++) {
            int waiting = Math.floorMod(c - time, 32);
            boolean itself = c == cycle && targetTank == tank;
            if (s.word(targetTank, c) == 0 && !itself && waiting < least) {
                best = c;
                least = waiting;
            }
        }
        return best;
    }

    public int moveNext(int tank, int cycle, int targetTank) {
        int best = bestFreeCycle(tank, cycle, targetTank);
        int[] next = after(tank, cycle, cycle);
        if (best < 0 || next[1] == tank && next[2] == cycle) {
            throw new IllegalStateException();
        }
        int word = s.word(next[1], next[2]);
        s.setWord(targetTank, best, word);
        if (next[1] != targetTank || next[2] != best) {
            s.setWord(next[1], next[2], 0);
        }
        int w = s.word(tank, cycle);
        s.setWord(tank, cycle, wrap((w & 4095) + 4096L * targetTank + 32768L * best));
        return best;
    }

    public int format(int tank, int cycle) {
        place(tank, cycle);
        int w = s.word(tank, cycle);
        String name = NAMES.get(w & 15);
        String operand = " " + (w >> 4 & 7) + "." + (w >> 7 & 31);
        if (name.equals("stop") || name.equals("in") || name.equals("out")) {
            operand = "";
        } else if (name.startsWith("sh")) {
            operand = " " + (w >> 7 & 31);
        }
        formatted = name + operand + " then " + (w >> 12 & 7) + "." + (w >> 15 & 31);
        return formatted.length();
    }

    public int formattedByte(int index) {
        bound(index, 0, formatted.length() - 1);
        return formatted.charAt(index);
    }

    public void save(int slot) {
        bound(slot, 0, 1);
        saved.put(slot, s.copy());
    }

    public void restore(int slot) {
        bound(slot, 0, 1);
        if (!saved.containsKey(slot)) {
            throw new IllegalStateException();
        }
        s = saved.get(slot).copy();
    }
}

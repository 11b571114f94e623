import java.util.NoSuchElementException;

/**
 * A serial computer with a mercury delay line store. The face checks its arguments; the machine
 * itself is a Computer, which is copied whole for snapshots and for predictions.
 */
public final class DelayLineStore {
    public static final int NONE = -1;

    private static final int TANKS = 8;
    private static final int CYCLES = 32;
    private static final int LOCATIONS = TANKS * CYCLES;
    private static final int WORD_BITS = 20;
    private static final int WORD_MASK = 0xFFFFF;
    private static final int LEAST_WORD = -524288;
    private static final int GREATEST_WORD = 524287;
    private static final int POSITIONS = CYCLES * WORD_BITS;

    private static final int GREATEST_TEMPERATURE = 1000;
    private static final int USUAL_TEMPERATURE = 400;
    private static final int LEAST_PERIOD = 900000;
    private static final int USUAL_PERIOD = 1000000;
    private static final int GREATEST_PERIOD = 1100000;
    private static final int USUAL_DELAY = 640000000;
    private static final int DELAY_PER_TENTH = 19200;
    private static final int PREDICTED_ENDS = 200;

    private static final int TEXT_LIMIT = 600;
    private static final int BYTES_APPENDED = 20;
    private static final int QUEUE_LIMIT = 64;
    private static final int RUN_LIMIT = 500;
    private static final int IDLE_LIMIT = 3200;
    private static final int PATH_LIMIT = 200;

    private static final int READY = 0;
    private static final int STOPPED = 1;
    private static final int WAITING_FOR_INPUT = 2;
    private static final int WAITING_FOR_OUTPUT = 3;

    private final Computer computer = new Computer();
    private final Computer rehearsal = new Computer();
    private final Computer firstSnapshot = new Computer();
    private final Computer secondSnapshot = new Computer();
    private boolean firstSaved;
    private boolean secondSaved;
    private final Assembler assembler = new Assembler();
    private final StringBuilder formatted = new StringBuilder();

    public DelayLineStore() {
    }

    // ---- assembler

    public int append(int a, int b, int c, int d, int e) throws IllegalStateException {
        if (assembler.length + BYTES_APPENDED > TEXT_LIMIT) {
            throw new IllegalStateException("the text buffer is full");
        }
        assembler.addFourBytes(a);
        assembler.addFourBytes(b);
        assembler.addFourBytes(c);
        assembler.addFourBytes(d);
        assembler.addFourBytes(e);
        return assembler.length;
    }

    public int truncate(int length) throws IndexOutOfBoundsException {
        if (length < 0 || length > assembler.length) {
            throw new IndexOutOfBoundsException("no length of the text buffer");
        }
        assembler.length = length;
        return length;
    }

    public int assemble() throws IllegalArgumentException {
        boolean good = assembler.translate();
        assembler.length = 0;
        if (!good) {
            throw new IllegalArgumentException("the text has an error");
        }
        for (int location = 0; location < LOCATIONS; location++) {
            if (assembler.isWritten(location)) {
                computer.store.putWord(location, assembler.wordFor(location));
            }
        }
        if (assembler.startLocation != NONE) {
            computer.makeReadyAt(assembler.startLocation);
        }
        return assembler.writtenCount;
    }

    public int errorCode() {
        return assembler.errorCode;
    }

    public int errorPosition() {
        return assembler.errorPosition;
    }

    // ---- store

    public int readWord(int tank, int cycle) throws IndexOutOfBoundsException {
        requireLocation(tank, cycle);
        return computer.store.wordAt(locationOf(tank, cycle));
    }

    public int writeWord(int tank, int cycle, int value)
            throws IndexOutOfBoundsException, IllegalArgumentException {
        requireLocation(tank, cycle);
        requireWord(value);
        int location = locationOf(tank, cycle);
        int previous = computer.store.wordAt(location);
        computer.store.putWord(location, value);
        return previous;
    }

    public int clearTank(int tank) throws IndexOutOfBoundsException {
        requireTank(tank);
        int ones = computer.store.countOnes(tank);
        computer.store.clearBits(tank);
        return ones;
    }

    public void swapTanks(int first, int second) throws IndexOutOfBoundsException {
        requireTank(first);
        requireTank(second);
        computer.store.exchange(first, second);
        computer.climate.exchange(first, second);
    }

    public int bitCount(int tank) throws IndexOutOfBoundsException {
        requireTank(tank);
        return computer.store.countOnes(tank);
    }

    public int slips(int tank) throws IndexOutOfBoundsException {
        requireTank(tank);
        return computer.store.slipCountOf(tank);
    }

    public int dropouts() {
        return computer.store.dropoutCount;
    }

    // ---- clock and temperature

    public int setTemperature(int tank, int temperature)
            throws IndexOutOfBoundsException, IllegalArgumentException {
        requireTank(tank);
        requireTemperature(temperature);
        int previous = computer.climate.temperatureOf(tank);
        computer.climate.putTemperature(tank, temperature);
        return previous;
    }

    public int temperature(int tank) throws IndexOutOfBoundsException {
        requireTank(tank);
        return computer.climate.temperatureOf(tank);
    }

    public int setOven(int temperature) throws IllegalArgumentException {
        requireTemperature(temperature);
        int previous = computer.climate.ovenTemperature;
        computer.climate.ovenTemperature = temperature;
        return previous;
    }

    public int setPilotTemperature(int temperature) throws IllegalArgumentException {
        requireTemperature(temperature);
        int previous = computer.climate.pilotTemperature;
        computer.climate.pilotTemperature = temperature;
        return previous;
    }

    public boolean setPilot(boolean on) {
        boolean previous = computer.climate.pilotOn;
        computer.climate.pilotOn = on;
        return previous;
    }

    public int setFixedPeriod(int period) throws IllegalArgumentException {
        if (period < LEAST_PERIOD || period > GREATEST_PERIOD) {
            throw new IllegalArgumentException("no fixed period");
        }
        int previous = computer.climate.fixedPeriod;
        computer.climate.fixedPeriod = period;
        return previous;
    }

    public int period() {
        return computer.climate.clockPeriod();
    }

    public int mismatch(int tank) throws IndexOutOfBoundsException {
        requireTank(tank);
        Climate climate = computer.climate;
        return mismatchOf(climate.temperatureOf(tank), climate.clockPeriod());
    }

    public int leastSafeTemperature() {
        int clockPeriod = computer.climate.clockPeriod();
        for (int temperature = 0; temperature <= GREATEST_TEMPERATURE; temperature++) {
            if (isSafe(temperature, clockPeriod)) {
                return temperature;
            }
        }
        return NONE;
    }

    public int greatestSafeTemperature() {
        int clockPeriod = computer.climate.clockPeriod();
        for (int temperature = GREATEST_TEMPERATURE; temperature >= 0; temperature--) {
            if (isSafe(temperature, clockPeriod)) {
                return temperature;
            }
        }
        return NONE;
    }

    public int unsafeAfter() {
        Climate forecast = rehearsal.climate;
        forecast.copyFrom(computer.climate);
        for (int ends = 0; ends <= PREDICTED_ENDS; ends++) {
            if (!forecast.allTanksSafe()) {
                return ends;
            }
            forecast.drift();
        }
        return NONE;
    }

    // ---- running

    public void start(int tank, int cycle) throws IndexOutOfBoundsException {
        requireLocation(tank, cycle);
        computer.makeReadyAt(locationOf(tank, cycle));
    }

    public int run(int count) throws IllegalArgumentException, IllegalStateException {
        requireCount(count, RUN_LIMIT);
        requireReady();
        return computer.executeUpTo(count);
    }

    public int idle(int count) throws IllegalArgumentException {
        requireCount(count, IDLE_LIMIT);
        computer.pass(count);
        return computer.time;
    }

    public int time() {
        return computer.time;
    }

    public int state() {
        return computer.state;
    }

    public int accumulator() {
        return computer.accumulator;
    }

    public boolean hasOverflow() {
        return computer.overflow;
    }

    public int location() {
        return computer.here;
    }

    public int offerInput(int value) throws IllegalArgumentException, IllegalStateException {
        requireWord(value);
        if (computer.input.isFull()) {
            throw new IllegalStateException("the input queue is full");
        }
        computer.input.addLast(value);
        if (computer.state == WAITING_FOR_INPUT) {
            computer.state = READY;
        }
        return computer.input.length;
    }

    public int takeOutput() throws NoSuchElementException {
        if (computer.output.length == 0) {
            throw new NoSuchElementException("the output queue is empty");
        }
        if (computer.state == WAITING_FOR_OUTPUT) {
            computer.state = READY;
        }
        return computer.output.removeFirst();
    }

    public int outputLength() {
        return computer.output.length;
    }

    public int executed() {
        return computer.executedTotal;
    }

    public int executedAt(int tank, int cycle) throws IndexOutOfBoundsException {
        requireLocation(tank, cycle);
        return computer.executedCountAt(locationOf(tank, cycle));
    }

    public int waited() {
        return computer.waitedTotal;
    }

    public int predictTime(int count) throws IllegalArgumentException, IllegalStateException {
        requireCount(count, RUN_LIMIT);
        requireReady();
        rehearsal.copyFrom(computer);
        rehearsal.executeUpTo(count);
        return rehearsal.time - computer.time;
    }

    // ---- timing analysis

    public int idealNextCycle(int tank, int cycle) throws IndexOutOfBoundsException {
        requireLocation(tank, cycle);
        return cycleAfter(locationOf(tank, cycle));
    }

    public int pathTime(int tank, int cycle, int count)
            throws IndexOutOfBoundsException, IllegalArgumentException {
        requireLocation(tank, cycle);
        requireCount(count, PATH_LIMIT);
        int place = locationOf(tank, cycle);
        int total = 0;
        for (int i = 0; i < count; i++) {
            int word = computer.store.wordAt(place);
            total += Instruction.duration(word, cycleOf(place));
            if (i == count - 1 || Instruction.opcode(word) == Instruction.STOP) {
                return total;
            }
            int next = Instruction.next(word);
            total += waitingUntil(next, cycleAfter(place));
            place = next;
        }
        return total;
    }

    public int bestFreeCycle(int tank, int cycle, int targetTank) throws IndexOutOfBoundsException {
        requireLocation(tank, cycle);
        requireTank(targetTank);
        return freeCycleAfter(locationOf(tank, cycle), targetTank);
    }

    public int moveNext(int tank, int cycle, int targetTank)
            throws IndexOutOfBoundsException, IllegalStateException {
        requireLocation(tank, cycle);
        requireTank(targetTank);
        int location = locationOf(tank, cycle);
        int newCycle = freeCycleAfter(location, targetTank);
        int word = computer.store.wordAt(location);
        int oldNext = Instruction.next(word);
        if (newCycle == NONE || oldNext == location) {
            throw new IllegalStateException("the next instruction can't be moved");
        }
        int newNext = locationOf(targetTank, newCycle);
        int moved = computer.store.wordAt(oldNext);
        // The old place may be the new one, but then its word was 0 before.
        computer.store.putWord(newNext, moved);
        computer.store.putWord(oldNext, 0);
        computer.store.putWord(location, Instruction.withNext(word, newNext));
        return newCycle;
    }

    // ---- disassembler

    public int format(int tank, int cycle) throws IndexOutOfBoundsException {
        requireLocation(tank, cycle);
        int word = computer.store.wordAt(locationOf(tank, cycle));
        int form = Instruction.operandForm(Instruction.opcode(word));
        formatted.setLength(0);
        formatted.append(Instruction.mnemonic(Instruction.opcode(word)));
        if (form == Instruction.LOCATION_OPERAND) {
            formatted.append(' ');
            formatLocation(Instruction.operand(word));
        } else if (form == Instruction.SHIFT_OPERAND) {
            formatted.append(' ');
            formatted.append(cycleOf(Instruction.operand(word)));
        }
        formatted.append(" then ");
        formatLocation(Instruction.next(word));
        return formatted.length();
    }

    public int formattedByte(int index) throws IndexOutOfBoundsException {
        if (index < 0 || index >= formatted.length()) {
            throw new IndexOutOfBoundsException("no byte of the formatted text");
        }
        return formatted.charAt(index);
    }

    // ---- snapshots

    public void save(int slot) throws IndexOutOfBoundsException {
        requireSlot(slot);
        if (slot == 0) {
            firstSnapshot.copyFrom(computer);
            firstSaved = true;
        } else {
            secondSnapshot.copyFrom(computer);
            secondSaved = true;
        }
    }

    public void restore(int slot) throws IndexOutOfBoundsException, IllegalStateException {
        requireSlot(slot);
        boolean saved = slot == 0 ? firstSaved : secondSaved;
        if (!saved) {
            throw new IllegalStateException("nothing was saved in the slot");
        }
        computer.copyFrom(slot == 0 ? firstSnapshot : secondSnapshot);
    }

    // ---- checks of arguments

    private static void requireTank(int tank) {
        if (tank < 0 || tank >= TANKS) {
            throw new IndexOutOfBoundsException("no tank");
        }
    }

    private static void requireLocation(int tank, int cycle) {
        if (tank < 0 || tank >= TANKS || cycle < 0 || cycle >= CYCLES) {
            throw new IndexOutOfBoundsException("no location");
        }
    }

    private static void requireWord(int value) {
        if (value < LEAST_WORD || value > GREATEST_WORD) {
            throw new IllegalArgumentException("no word");
        }
    }

    private static void requireTemperature(int temperature) {
        if (temperature < 0 || temperature > GREATEST_TEMPERATURE) {
            throw new IllegalArgumentException("no temperature");
        }
    }

    private static void requireCount(int count, int greatest) {
        if (count < 1 || count > greatest) {
            throw new IllegalArgumentException("the count is out of range");
        }
    }

    private static void requireSlot(int slot) {
        if (slot < 0 || slot > 1) {
            throw new IndexOutOfBoundsException("no slot");
        }
    }

    private void requireReady() {
        if (computer.state != READY) {
            throw new IllegalStateException("the computer is not ready");
        }
    }

    // ---- locations, words and the clock's formulas

    private static int locationOf(int tank, int cycle) {
        return CYCLES * tank + cycle;
    }

    private static int cycleOf(int location) {
        return location & (CYCLES - 1);
    }

    /** The waiting from a time, or from its cycle, until the cycle of a location. */
    private static int waitingUntil(int location, int time) {
        return (location - time) & (CYCLES - 1);
    }

    private static int wrap(long value) {
        int unused = 64 - WORD_BITS;
        return (int) ((value << unused) >> unused);
    }

    private static int delayOf(int temperature) {
        return USUAL_DELAY + DELAY_PER_TENTH * (temperature - USUAL_TEMPERATURE);
    }

    private static int mismatchOf(int temperature, int clockPeriod) {
        return delayOf(temperature) - POSITIONS * clockPeriod;
    }

    private static boolean isSafe(int temperature, int clockPeriod) {
        return Math.abs(mismatchOf(temperature, clockPeriod)) <= clockPeriod / 4;
    }

    private static void copyRow(int[] from, int[] to) {
        System.arraycopy(from, 0, to, 0, Math.min(from.length, to.length));
    }

    private int cycleAfter(int location) {
        int cycle = cycleOf(location);
        return cycleOf(cycle + Instruction.duration(computer.store.wordAt(location), cycle));
    }

    private int freeCycleAfter(int location, int targetTank) {
        int ideal = cycleAfter(location);
        for (int waiting = 0; waiting < CYCLES; waiting++) {
            int candidate = locationOf(targetTank, cycleOf(ideal + waiting));
            if (candidate != location && computer.store.wordAt(candidate) == 0) {
                return cycleOf(candidate);
            }
        }
        return NONE;
    }

    private void formatLocation(int location) {
        formatted.append(location / CYCLES);
        formatted.append('.');
        formatted.append(cycleOf(location));
    }

    /** What the fields of a word mean. Locations are numbers, 32 * tank + cycle. */
    private static final class Instruction {
        static final int STOP = 0;
        static final int LOAD = 1;
        static final int STORE = 2;
        static final int ADD = 3;
        static final int SUB = 4;
        static final int AND = 5;
        static final int XOR = 6;
        static final int MUL = 7;
        static final int SHL = 8;
        static final int SHR = 9;
        static final int JNEG = 10;
        static final int JZERO = 11;
        static final int JOVER = 12;
        static final int IN = 13;
        static final int OUT = 14;
        static final int COUNT = 15;
        static final int OPCODES = 16;

        static final int NO_OPERAND = 0;
        static final int LOCATION_OPERAND = 1;
        static final int SHIFT_OPERAND = 2;

        private static final int EXTRA_OF_MUL = 20;

        static int opcode(int word) {
            return word & 15;
        }

        static int operand(int word) {
            return locationOf((word >> 4) & 7, (word >> 7) & 31);
        }

        static int next(int word) {
            return locationOf((word >> 12) & 7, (word >> 15) & 31);
        }

        static int encode(int opcode, int operand, int next) {
            int operandFields = (operand / CYCLES) << 4 | cycleOf(operand) << 7;
            return withNext(opcode | operandFields, next);
        }

        static int withNext(int word, int next) {
            int nextFields = (next / CYCLES) << 12 | cycleOf(next) << 15;
            return wrap(word & 0xFFF | nextFields);
        }

        static String mnemonic(int opcode) {
            switch (opcode) {
                case LOAD: return "load";
                case STORE: return "store";
                case ADD: return "add";
                case SUB: return "sub";
                case AND: return "and";
                case XOR: return "xor";
                case MUL: return "mul";
                case SHL: return "shl";
                case SHR: return "shr";
                case JNEG: return "jneg";
                case JZERO: return "jzero";
                case JOVER: return "jover";
                case IN: return "in";
                case OUT: return "out";
                case COUNT: return "count";
                default: return "stop";
            }
        }

        static int operandForm(int opcode) {
            switch (opcode) {
                case STOP:
                case IN:
                case OUT:
                    return NO_OPERAND;
                case SHL:
                case SHR:
                    return SHIFT_OPERAND;
                default:
                    return LOCATION_OPERAND;
            }
        }

        static boolean isJump(int opcode) {
            return opcode == JNEG || opcode == JZERO || opcode == JOVER;
        }

        /** A jump names a location too, but does not wait for it. */
        static boolean waitsForOperand(int opcode) {
            return operandForm(opcode) == LOCATION_OPERAND && !isJump(opcode);
        }

        /** The minor cycles after the reading of an instruction and the waiting for its operand. */
        static int ownTime(int word) {
            switch (opcode(word)) {
                case STOP: return 0;
                case MUL: return 1 + EXTRA_OF_MUL;
                case SHL: return 1 + cycleOf(operand(word));
                case SHR: return 1 + cycleOf(operand(word));
                case COUNT: return CYCLES + 1;
                default: return 1;
            }
        }

        /** The minor cycles of an instruction that is read in its cycle. */
        static int duration(int word, int cycle) {
            int waiting = waitsForOperand(opcode(word)) ? waitingUntil(operand(word), cycle + 1) : 0;
            return 1 + waiting + ownTime(word);
        }
    }

    /** The bits of the tanks, 20 in each element, with the counts of what happened to them. */
    private static final class Store {
        private final int[] bits = new int[LOCATIONS];
        private final int[] ring = new int[CYCLES];
        private final int[] slipCounts = new int[TANKS];
        int dropoutCount;

        int wordAt(int location) {
            return wrap(bits[location & (LOCATIONS - 1)]);
        }

        void putWord(int location, int value) {
            bits[location & (LOCATIONS - 1)] = value & WORD_MASK;
        }

        int slipCountOf(int tank) {
            return slipCounts[tank & (TANKS - 1)];
        }

        int countOnes(int tank) {
            int ones = 0;
            for (int cycle = 0; cycle < CYCLES; cycle++) {
                ones += Integer.bitCount(bits[locationOf(tank, cycle) & (LOCATIONS - 1)]);
            }
            return ones;
        }

        void clearBits(int tank) {
            for (int cycle = 0; cycle < CYCLES; cycle++) {
                putWord(locationOf(tank, cycle), 0);
            }
        }

        void exchange(int first, int second) {
            for (int cycle = 0; cycle < CYCLES; cycle++) {
                int word = wordAt(locationOf(first, cycle));
                putWord(locationOf(first, cycle), wordAt(locationOf(second, cycle)));
                putWord(locationOf(second, cycle), word);
            }
            int count = slipCountOf(first);
            slipCounts[first & (TANKS - 1)] = slipCountOf(second);
            slipCounts[second & (TANKS - 1)] = count;
        }

        /** Moves the bits of a tank to higher positions, or to lower ones if distance is negative. */
        void moveBits(int tank, int distance) {
            if (distance == 0) {
                return;
            }
            int forward = Math.floorMod(distance, POSITIONS);
            int wholeWords = forward / WORD_BITS;
            int shift = forward % WORD_BITS;
            for (int cycle = 0; cycle < CYCLES; cycle++) {
                ring[cycle] = bits[locationOf(tank, cycle) & (LOCATIONS - 1)];
            }
            for (int cycle = 0; cycle < CYCLES; cycle++) {
                int upper = ring[cycleOf(cycle - wholeWords)] << shift;
                int lower = ring[cycleOf(cycle - wholeWords - 1)] >> (WORD_BITS - shift);
                bits[locationOf(tank, cycle) & (LOCATIONS - 1)] = (upper | lower) & WORD_MASK;
            }
            slipCounts[tank & (TANKS - 1)] += Math.abs(distance);
        }

        void dropBit(int tank, int position) {
            int location = locationOf(tank, position / WORD_BITS) & (LOCATIONS - 1);
            int bit = 1 << (position % WORD_BITS);
            if ((bits[location] & bit) != 0) {
                bits[location] &= ~bit;
                dropoutCount++;
            }
        }

        void copyFrom(Store other) {
            copyRow(other.bits, bits);
            copyRow(other.slipCounts, slipCounts);
            dropoutCount = other.dropoutCount;
        }
    }

    /** The temperatures and the clock that follows from them. */
    private static final class Climate {
        private final int[] temperatures = new int[TANKS];
        int pilotTemperature = USUAL_TEMPERATURE;
        int ovenTemperature = USUAL_TEMPERATURE;
        int fixedPeriod = USUAL_PERIOD;
        boolean pilotOn;

        Climate() {
            for (int tank = 0; tank < TANKS; tank++) {
                temperatures[tank] = USUAL_TEMPERATURE;
            }
        }

        int temperatureOf(int tank) {
            return temperatures[tank & (TANKS - 1)];
        }

        void putTemperature(int tank, int temperature) {
            temperatures[tank & (TANKS - 1)] = temperature;
        }

        void exchange(int first, int second) {
            int temperature = temperatureOf(first);
            putTemperature(first, temperatureOf(second));
            putTemperature(second, temperature);
        }

        int clockPeriod() {
            return pilotOn ? delayOf(pilotTemperature) / POSITIONS : fixedPeriod;
        }

        boolean allTanksSafe() {
            int clockPeriod = clockPeriod();
            for (int tank = 0; tank < TANKS; tank++) {
                if (!isSafe(temperatureOf(tank), clockPeriod)) {
                    return false;
                }
            }
            return true;
        }

        /** What the end of a major cycle does to the temperatures. */
        void drift() {
            for (int tank = 0; tank < TANKS; tank++) {
                int temperature = temperatureOf(tank);
                putTemperature(tank, temperature + (ovenTemperature - temperature) / 8);
            }
            pilotTemperature += (ovenTemperature - pilotTemperature) / 8;
        }

        void copyFrom(Climate other) {
            copyRow(other.temperatures, temperatures);
            pilotTemperature = other.pilotTemperature;
            ovenTemperature = other.ovenTemperature;
            fixedPeriod = other.fixedPeriod;
            pilotOn = other.pilotOn;
        }
    }

    /** A queue of at most 64 numbers in a ring. */
    private static final class NumberQueue {
        private final int[] ring = new int[QUEUE_LIMIT];
        private int first;
        int length;

        boolean isFull() {
            return length >= QUEUE_LIMIT;
        }

        void addLast(int value) {
            ring[(first + length) & (QUEUE_LIMIT - 1)] = value;
            length++;
        }

        int removeFirst() {
            int value = ring[first & (QUEUE_LIMIT - 1)];
            first = (first + 1) & (QUEUE_LIMIT - 1);
            length--;
            return value;
        }

        void copyFrom(NumberQueue other) {
            copyRow(other.ring, ring);
            first = other.first;
            length = other.length;
        }
    }

    /** Everything that a snapshot holds. */
    private static final class Computer {
        final Store store = new Store();
        final Climate climate = new Climate();
        final NumberQueue input = new NumberQueue();
        final NumberQueue output = new NumberQueue();
        private final int[] executedCounts = new int[LOCATIONS];
        int executedTotal;
        int waitedTotal;
        int time;
        int state = STOPPED;
        int here;
        int accumulator;
        boolean overflow;

        void makeReadyAt(int location) {
            here = location;
            state = READY;
        }

        int executedCountAt(int location) {
            return executedCounts[location & (LOCATIONS - 1)];
        }

        int executeUpTo(int count) {
            int before = executedTotal;
            for (int i = 0; i < count && state == READY; i++) {
                executeNext();
            }
            return executedTotal - before;
        }

        private void executeNext() {
            awaitCycle(here);
            int word = store.wordAt(here);
            pass(1);
            int opcode = Instruction.opcode(word);
            if (opcode == Instruction.IN && input.length == 0) {
                state = WAITING_FOR_INPUT;
                return;
            }
            if (opcode == Instruction.OUT && output.isFull()) {
                state = WAITING_FOR_OUTPUT;
                return;
            }
            int operand = Instruction.operand(word);
            if (Instruction.waitsForOperand(opcode)) {
                awaitCycle(operand);
            }
            boolean jumps = isJumpTaken(opcode);
            perform(opcode, operand);
            if (opcode == Instruction.COUNT) {
                // It writes late, so a slip during its major cycle does not reach what it writes.
                pass(CYCLES);
                store.putWord(operand, accumulator);
                pass(1);
            } else {
                pass(Instruction.ownTime(word));
            }
            executedTotal++;
            executedCounts[here & (LOCATIONS - 1)]++;
            here = jumps ? operand : Instruction.next(word);
        }

        private boolean isJumpTaken(int opcode) {
            switch (opcode) {
                case Instruction.JNEG: return accumulator < 0;
                case Instruction.JZERO: return accumulator == 0;
                case Instruction.JOVER: return overflow;
                default: return false;
            }
        }

        /** Does what an instruction does in its operand's cycle, before its own time passes. */
        private void perform(int opcode, int operand) {
            switch (opcode) {
                case Instruction.STOP:
                    state = STOPPED;
                    break;
                case Instruction.STORE:
                    store.putWord(operand, accumulator);
                    break;
                case Instruction.SHL:
                    accumulator = wrap((long) accumulator << cycleOf(operand));
                    break;
                case Instruction.SHR:
                    accumulator = accumulator >> cycleOf(operand);
                    break;
                case Instruction.JOVER:
                    overflow = false;
                    break;
                case Instruction.IN:
                    accumulator = input.removeFirst();
                    break;
                case Instruction.OUT:
                    output.addLast(accumulator);
                    break;
                default:
                    combine(opcode, store.wordAt(operand));
            }
        }

        private void combine(int opcode, int word) {
            switch (opcode) {
                case Instruction.LOAD:
                    accumulator = word;
                    break;
                case Instruction.ADD:
                    putResult((long) accumulator + word);
                    break;
                case Instruction.SUB:
                    putResult((long) accumulator - word);
                    break;
                case Instruction.AND:
                    accumulator &= word;
                    break;
                case Instruction.XOR:
                    accumulator ^= word;
                    break;
                case Instruction.MUL:
                    putResult((long) accumulator * word);
                    break;
                case Instruction.COUNT:
                    accumulator = wrap((long) word - 1);
                    break;
                default:
                    break;
            }
        }

        private void putResult(long result) {
            accumulator = wrap(result);
            if (accumulator != result) {
                overflow = true;
            }
        }

        private void awaitCycle(int location) {
            int waiting = waitingUntil(location, time);
            waitedTotal += waiting;
            pass(waiting);
        }

        void pass(int minorCycles) {
            int target = time + minorCycles;
            for (int major = time / CYCLES + 1; major <= target / CYCLES; major++) {
                endMajorCycle(major);
            }
            time = target;
        }

        private void endMajorCycle(int major) {
            int clockPeriod = climate.clockPeriod();
            if (clockPeriod <= 0) {
                return;
            }
            for (int tank = 0; tank < TANKS; tank++) {
                int mismatch = mismatchOf(climate.temperatureOf(tank), clockPeriod);
                int distance = Math.floorDiv(mismatch + clockPeriod / 2, clockPeriod);
                store.moveBits(tank, distance);
                if (Math.abs(mismatch - distance * clockPeriod) > clockPeriod / 4) {
                    store.dropBit(tank, (7 * major + tank) % POSITIONS);
                }
            }
            climate.drift();
        }

        void copyFrom(Computer other) {
            store.copyFrom(other.store);
            climate.copyFrom(other.climate);
            input.copyFrom(other.input);
            output.copyFrom(other.output);
            copyRow(other.executedCounts, executedCounts);
            executedTotal = other.executedTotal;
            waitedTotal = other.waitedTotal;
            time = other.time;
            state = other.state;
            here = other.here;
            accumulator = other.accumulator;
            overflow = other.overflow;
        }
    }

    /** Translates the text into rows of its own, so that a text with an error changes nothing. */
    private static final class Assembler {
        private static final int TOKEN_NOT_EXPECTED = 1;
        private static final int OUT_OF_RANGE = 2;
        private static final int WRITTEN_TWICE = 3;
        private static final int GREATEST_DIGITS = 6;

        // The kinds of tokens; a symbol is its own kind.
        private static final int END = 0;
        private static final int NAME = 1;
        private static final int NUMBER = 2;
        private static final int BAD = 3;

        private final int[] text = new int[TEXT_LIMIT];
        int length;
        int errorCode;
        int errorPosition = NONE;

        private final int[] words = new int[LOCATIONS];
        private final boolean[] written = new boolean[LOCATIONS];
        int writtenCount;
        int startLocation = NONE;
        private int place;

        private int kind;
        private int tokenStart;
        private int tokenEnd;
        private int number;

        void addFourBytes(int bytes) {
            for (int shift = 24; shift >= 0; shift -= 8) {
                if (length >= 0 && length < text.length) {
                    text[length] = (bytes >> shift) & 255;
                    length++;
                }
            }
        }

        boolean isWritten(int location) {
            return written[location & (LOCATIONS - 1)];
        }

        int wordFor(int location) {
            return words[location & (LOCATIONS - 1)];
        }

        /** The readers go on to the end of a statement that has an error, for only the first is kept. */
        boolean translate() {
            beginText();
            readToken();
            for (int i = 0; i < TEXT_LIMIT && kind != END && errorCode == 0; i++) {
                int opcode = opcodeOfToken();
                if (tokenIs("at")) {
                    readToken();
                    place = readLocation();
                } else if (tokenIs("start")) {
                    readToken();
                    startLocation = readLocation();
                } else if (tokenIs("word")) {
                    readWordStatement();
                } else if (opcode != NONE) {
                    readInstruction(opcode);
                } else {
                    fail(TOKEN_NOT_EXPECTED);
                }
                readSymbol(';');
            }
            return errorCode == 0;
        }

        private void beginText() {
            for (int location = 0; location < LOCATIONS; location++) {
                written[location] = false;
            }
            writtenCount = 0;
            startLocation = NONE;
            place = 0;
            errorCode = 0;
            errorPosition = NONE;
            tokenEnd = 0;
        }

        private void readWordStatement() {
            refuseWrittenPlace();
            readToken();
            boolean negative = kind == '-';
            if (negative) {
                readToken();
            }
            int size = readNumber(negative ? -LEAST_WORD : GREATEST_WORD);
            write(negative ? -size : size);
        }

        private void readInstruction(int opcode) {
            refuseWrittenPlace();
            readToken();
            int operand = 0;
            int form = Instruction.operandForm(opcode);
            if (form == Instruction.LOCATION_OPERAND) {
                operand = readLocation();
            } else if (form == Instruction.SHIFT_OPERAND) {
                operand = readNumber(CYCLES - 1);
            }
            int next = placeAfter();
            if (tokenIs("then")) {
                readToken();
                next = readLocation();
            }
            write(Instruction.encode(opcode, operand, next));
        }

        private int readLocation() {
            int tank = readNumber(TANKS - 1);
            readSymbol('.');
            int cycle = readNumber(CYCLES - 1);
            return locationOf(tank, cycle);
        }

        private int readNumber(int greatest) {
            if (kind != NUMBER) {
                fail(TOKEN_NOT_EXPECTED);
                return 0;
            }
            if (number > greatest) {
                fail(OUT_OF_RANGE);
                return 0;
            }
            int value = number;
            readToken();
            return value;
        }

        private void readSymbol(int symbol) {
            if (kind == symbol) {
                readToken();
            } else {
                fail(TOKEN_NOT_EXPECTED);
            }
        }

        private void refuseWrittenPlace() {
            if (isWritten(place)) {
                fail(WRITTEN_TWICE);
            }
        }

        private void write(int word) {
            words[place & (LOCATIONS - 1)] = word;
            written[place & (LOCATIONS - 1)] = true;
            writtenCount++;
            place = placeAfter();
        }

        private int placeAfter() {
            return locationOf(place / CYCLES, cycleOf(place + 1));
        }

        private void fail(int code) {
            if (errorCode == 0) {
                errorCode = code;
                errorPosition = tokenStart;
            }
        }

        private int opcodeOfToken() {
            for (int opcode = 0; opcode < Instruction.OPCODES; opcode++) {
                if (tokenIs(Instruction.mnemonic(opcode))) {
                    return opcode;
                }
            }
            return NONE;
        }

        private boolean tokenIs(String name) {
            if (kind != NAME || tokenEnd - tokenStart != name.length()) {
                return false;
            }
            for (int i = 0; i < name.length(); i++) {
                if (byteAt(tokenStart + i) != name.charAt(i)) {
                    return false;
                }
            }
            return true;
        }

        private void readToken() {
            tokenStart = tokenEnd;
            while (tokenStart < length && isBlank(byteAt(tokenStart))) {
                tokenStart++;
            }
            int first = byteAt(tokenStart);
            tokenEnd = Math.min(tokenStart + 1, length);
            if (tokenStart >= length) {
                kind = END;
            } else if (isLetter(first)) {
                kind = NAME;
                readLetters();
            } else if (isDigit(first)) {
                readDigits();
            } else {
                kind = first == '.' || first == ';' || first == '-' ? first : BAD;
            }
        }

        private void readLetters() {
            while (tokenEnd < length && isLetter(byteAt(tokenEnd))) {
                tokenEnd++;
            }
        }

        private void readDigits() {
            tokenEnd = tokenStart;
            number = 0;
            while (tokenEnd < length && isDigit(byteAt(tokenEnd))) {
                // Of a run that is too long the number is not used; it may wrap around.
                number = 10 * number + byteAt(tokenEnd) - '0';
                tokenEnd++;
            }
            kind = tokenEnd - tokenStart > GREATEST_DIGITS ? BAD : NUMBER;
        }

        private int byteAt(int index) {
            return index >= 0 && index < length && index < text.length ? text[index] : NONE;
        }

        private static boolean isBlank(int character) {
            return character == 10 || character == ' ';
        }

        private static boolean isLetter(int character) {
            return character >= 'a' && character <= 'z';
        }

        private static boolean isDigit(int character) {
            return character >= '0' && character <= '9';
        }
    }
}

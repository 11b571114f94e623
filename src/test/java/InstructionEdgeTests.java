/**
 * The edges that INSTRUCTIONS names. Above each test stands the sentence that it holds the class to.
 *
 * A tank at 452 slips by 1 position at each of the first two ends of major cycles, without losing a bit.
 */
final class InstructionEdgeTests {
    private static final int ONE_UP = 452;

    private InstructionEdgeTests() {
    }

    /** Takes an accumulator from the input queue and executes an instruction with a word at 1.2. */
    private static DelayLineStore computed(String name, int accumulator, int word) {
        DelayLineStore x = Texts.computerWith("start 0.0; in; " + name + " 1.2; stop;");
        x.writeWord(1, 2, word);
        x.offerInput(accumulator);
        Check.due("run(2) of " + name, x.run(2), 2);
        return x;
    }

    private static void result(String name, int accumulator, int word, int due, boolean overflow) {
        DelayLineStore x = computed(name, accumulator, word);
        String call = accumulator + " " + name + " " + word;
        Check.due(call, x.accumulator(), due);
        Check.due("hasOverflow() after " + call, x.hasOverflow(), overflow);
    }

    /** The computer of a text after one instruction, with tank 1 slipping by one at each end. */
    private static DelayLineStore slipping(String text) {
        DelayLineStore x = Texts.computerWith(text);
        x.setTemperature(1, ONE_UP);
        return x;
    }

    // ---- fields and first values

    /** "Its fields are .. each as an unsigned number": the next cycle holds the sign of the word. */
    @Test
    static void fieldsAreUnsigned() {
        DelayLineStore x = new DelayLineStore();
        x.writeWord(0, 0, Texts.word(0, 0, 0, 7, 31));
        x.start(0, 0);
        x.run(1);
        Check.due("location() after a stop then 7.31", x.location(), 255);
        x.writeWord(0, 1, -1);
        Check.due("the text of -1", Texts.formatted(x, 0, 1), "count 7.31 then 7.31");
        x.writeWord(0, 1, 524287);
        Check.due("the text of 524287", Texts.formatted(x, 0, 1), "count 7.31 then 7.15");
        x.writeWord(0, 1, -524288);
        Check.due("the text of -524288", Texts.formatted(x, 0, 1), "stop then 0.16");
    }

    /** "The operand is the location of operand tank and operand cycle": 7.31 and 0.0. */
    @Test
    static void theFirstAndTheLastOperand() {
        DelayLineStore x = Texts.computerWith("start 0.0; load 7.31; load 0.0 then 0.5;");
        x.writeWord(7, 31, 4321);
        int first = x.readWord(0, 0);
        x.run(1);
        Check.due("load 7.31", x.accumulator(), 4321);
        x.run(1);
        Check.due("load 0.0", x.accumulator(), first);
    }

    /** "An accumulator (a word, 0 at first), an overflow flag (off at first), a current location (0.0 at first)". */
    @Test
    static void accumulatorFlagAndLocationAtFirst() {
        DelayLineStore x = new DelayLineStore();
        Check.due("accumulator()", x.accumulator(), 0);
        Check.due("hasOverflow()", x.hasOverflow(), false);
        Check.due("location()", x.location(), 0);
    }

    /** "An input queue and an output queue (at most 64 numbers each, empty at first)". */
    @Test
    static void theQueuesAreEmptyAtFirst() {
        DelayLineStore x = new DelayLineStore();
        Check.due("outputLength()", x.outputLength(), 0);
        Check.thrown("takeOutput()", () -> x.takeOutput(), java.util.NoSuchElementException.class);
        x.writeWord(0, 0, 13);
        x.start(0, 0);
        Check.due("run(1) of an in", x.run(1), 0);
        Check.due("offerInput(1)", x.offerInput(1), 1);
    }

    /** "It is stopped at first." */
    @Test
    static void itIsStoppedAtFirst() {
        DelayLineStore x = new DelayLineStore();
        Check.due("state()", x.state(), 1);
        Check.badState("run(1)", () -> x.run(1));
    }

    // ---- waiting

    /** "The least number of minor cycles (0 to 31)": 0 for an instruction in its own cycle. */
    @Test
    static void anInstructionInItsCycleIsNotWaitedFor() {
        DelayLineStore x = Texts.computerWith("start 0.9; at 0.9; stop;");
        x.idle(9);
        x.run(1);
        Check.due("waited()", x.waited(), 0);
        Check.due("time()", x.time(), 10);
    }

    /** "(0 to 31)": 31 for an instruction whose cycle has just passed. */
    @Test
    static void anInstructionJustMissedIsWaitedFor31() {
        DelayLineStore x = Texts.computerWith("start 0.9; at 0.9; stop;");
        x.idle(10);
        x.run(1);
        Check.due("waited()", x.waited(), 31);
        Check.due("time()", x.time(), 42);
    }

    /** "(0 to 31)": 0 for an operand of the cycle after that of the instruction. */
    @Test
    static void anOperandOfTheNextCycleIsNotWaitedFor() {
        DelayLineStore x = Texts.computerWith("start 0.0; load 1.1;");
        x.run(1);
        Check.due("waited()", x.waited(), 0);
        Check.due("time()", x.time(), 2);
    }

    /** "(0 to 31)": 31 for an operand of the cycle of the instruction. */
    @Test
    static void anOperandOfTheSameCycleIsWaitedFor31() {
        DelayLineStore x = Texts.computerWith("start 0.0; load 1.0;");
        x.run(1);
        Check.due("waited()", x.waited(), 31);
        Check.due("time()", x.time(), 33);
    }

    /** "After which the time modulo 32 is that cycle": cycle 0 follows on cycle 31. */
    @Test
    static void cycle0FollowsOnCycle31() {
        DelayLineStore x = Texts.computerWith("start 0.31; at 0.31; load 1.0 then 0.1;");
        x.idle(31);
        x.run(1);
        Check.due("waited()", x.waited(), 0);
        Check.due("time()", x.time(), 33);
    }

    /** "This number is added to the waiting count": what passes otherwise is not. */
    @Test
    static void otherTimeIsNotAddedToTheWaitingCount() {
        DelayLineStore x = Texts.computerWith("start 0.0; mul 1.1 then 0.22; at 0.22; shl 31 then 0.23; count 1.24;");
        x.run(3);
        // 22, then 22 to 55, then 55 to 89 without waiting anywhere.
        Check.due("time()", x.time(), 22 + 33 + 34);
        Check.due("waited()", x.waited(), 0);
        x.idle(50);
        Check.due("waited() after idle(50)", x.waited(), 0);
    }

    // ---- reading beside the end of a major cycle

    /** "The computer waits for the cycle of the current location, reads the word": after the slip while it waits. */
    @Test
    static void anInstructionIsReadAfterTheWaiting() {
        DelayLineStore x = new DelayLineStore();
        x.setTemperature(0, ONE_UP);
        // The one bit of "stop then 0.16" leaves the word before it is read.
        x.writeWord(0, 2, -524288);
        x.start(0, 2);
        x.idle(5);
        Check.due("run(1)", x.run(1), 1);
        Check.due("time()", x.time(), 35);
        Check.due("location()", x.location(), 0);
    }

    /** "Reads the word of the current location, and one minor cycle passes": the slip of cycle 31 comes after. */
    @Test
    static void anInstructionOfCycle31IsReadBeforeTheSlip() {
        DelayLineStore x = new DelayLineStore();
        x.setTemperature(0, ONE_UP);
        x.writeWord(0, 31, -524288);
        x.start(0, 31);
        Check.due("run(1)", x.run(1), 1);
        Check.due("time()", x.time(), 32);
        Check.due("slips(0)", x.slips(0), 1);
        Check.due("location()", x.location(), 16);
        Check.due("readWord(0, 31)", x.readWord(0, 31), 0);
    }

    /** "The computer waits for the operand cycle, reads the word of the operand": after the slip while it waits. */
    @Test
    static void anOperandIsReadAfterTheWaiting() {
        DelayLineStore x = slipping("start 0.5; at 0.5; load 1.5; at 1.5; word 8;");
        x.run(1);
        Check.due("slips(1)", x.slips(1), 1);
        Check.due("accumulator()", x.accumulator(), 16);
    }

    /** ".. reads the word of the operand, and one minor cycle passes": the slip of cycle 31 comes after. */
    @Test
    static void anOperandOfCycle31IsReadBeforeTheSlip() {
        DelayLineStore x = slipping("start 0.5; at 0.5; load 1.31; at 1.31; word 8;");
        x.run(1);
        Check.due("slips(1)", x.slips(1), 1);
        Check.due("accumulator()", x.accumulator(), 8);
    }

    /** An operand of cycle 0 right after an instruction of cycle 31 has slipped already. */
    @Test
    static void anOperandOfCycle0IsReadAfterTheSlip() {
        DelayLineStore x = slipping("start 0.31; at 0.31; load 1.0; at 1.0; word 8;");
        x.run(1);
        Check.due("time()", x.time(), 33);
        Check.due("accumulator()", x.accumulator(), 16);
    }

    // ---- stop, load, store

    /** "0 stop: the state becomes stopped": after one minor cycle, and no instruction more is executed. */
    @Test
    static void aStopTakesOneMinorCycle() {
        DelayLineStore x = Texts.computerWith("start 0.0; stop; stop;");
        Check.due("run(500)", x.run(500), 1);
        Check.due("time()", x.time(), 1);
        Check.due("state()", x.state(), 1);
    }

    /** "load: the accumulator becomes the word": no flag, at the ends of the range. */
    @Test
    static void aLoadOfTheLeastAndTheGreatestWord() {
        result("load", 1, -524288, -524288, false);
        result("load", -1, 524287, 524287, false);
        result("load", 1, 0, 0, false);
    }

    /** "2 store: the computer waits for the operand cycle, the word of the operand becomes the accumulator". */
    @Test
    static void aStoreAfterTheEndDoesNotSlip() {
        DelayLineStore x = slipping("start 0.0; load 2.1 then 0.30; at 0.30; store 1.0; at 2.1; word 9;");
        x.run(2);
        Check.due("slips(1)", x.slips(1), 1);
        Check.due("readWord(1, 0)", x.readWord(1, 0), 9);
        Check.due("time()", x.time(), 33);
    }

    /** ".. the word of the operand becomes the accumulator, and one minor cycle passes": that of cycle 31 slips. */
    @Test
    static void aStoreIntoCycle31SlipsAtOnce() {
        DelayLineStore x = slipping("start 0.0; load 2.1 then 0.30; at 0.30; store 1.31; at 2.1; word 9;");
        x.run(2);
        Check.due("slips(1)", x.slips(1), 1);
        Check.due("readWord(1, 31)", x.readWord(1, 31), 18);
        Check.due("time()", x.time(), 32);
    }

    /** A store may replace the instruction itself, which has been read before. */
    @Test
    static void aStoreIntoItsOwnPlace() {
        DelayLineStore x = Texts.computerWith("start 0.0; load 2.1; store 0.1 then 0.7; at 2.1; word 9;");
        Check.due("run(2)", x.run(2), 2);
        Check.due("readWord(0, 1)", x.readWord(0, 1), 9);
        Check.due("location()", x.location(), 7);
    }

    // ---- arithmetic

    /** "add ..: the overflow flag is switched on if wrapping changes the result": at the greatest word. */
    @Test
    static void addOverflowsPastTheGreatestWord() {
        result("add", 524286, 1, 524287, false);
        result("add", 524287, 0, 524287, false);
        result("add", 524287, 1, -524288, true);
        result("add", 524287, 524287, -2, true);
    }

    /** "add ..": at the least word. */
    @Test
    static void addOverflowsBelowTheLeastWord() {
        result("add", -524287, -1, -524288, false);
        result("add", -524288, 524287, -1, false);
        result("add", -524288, -1, 524287, true);
        result("add", -524288, -524288, 0, true);
    }

    /** "sub ..: the wrapped difference accumulator minus word": at the greatest word. */
    @Test
    static void subOverflowsPastTheGreatestWord() {
        result("sub", -1, -524288, 524287, false);
        result("sub", 0, -524288, -524288, true);
        result("sub", 524287, -1, -524288, true);
        result("sub", 524287, -524288, -1, true);
    }

    /** "sub ..": at the least word. */
    @Test
    static void subOverflowsBelowTheLeastWord() {
        result("sub", -1, 524287, -524288, false);
        result("sub", -2, 524287, 524287, true);
        result("sub", -524288, 1, 524287, true);
        result("sub", -524288, -524288, 0, false);
    }

    /** "and, xor: the accumulator becomes the bitwise result": with bit 19, and without any flag. */
    @Test
    static void andAndXorOfTheSignBit() {
        result("and", -524288, -1, -524288, false);
        result("and", -524288, 524287, 0, false);
        result("xor", -524288, -1, 524287, false);
        result("xor", -524288, 524287, -1, false);
        result("xor", -1, -1, 0, false);
    }

    /** "mul: the accumulator becomes the wrapped product; the overflow flag is switched on if wrapping changes it". */
    @Test
    static void mulOverflowsPastTheGreatestWord() {
        result("mul", 524287, 1, 524287, false);
        result("mul", -524287, -1, 524287, false);
        result("mul", 1024, 512, -524288, true);
        result("mul", -524288, -1, -524288, true);
        result("mul", 174763, 3, -524287, true);
    }

    /** "mul ..": at the least word. */
    @Test
    static void mulOverflowsBelowTheLeastWord() {
        result("mul", -524288, 1, -524288, false);
        result("mul", 1024, -512, -524288, false);
        result("mul", 174763, -3, 524287, true);
        result("mul", -524288, 2, 0, true);
    }

    /** "mul ..": the greatest products of all. */
    @Test
    static void mulOfTheGreatestProducts() {
        result("mul", 524287, 524287, 1, true);
        result("mul", -524288, -524288, 0, true);
        result("mul", -524288, 524287, -524288, true);
        result("mul", 0, -524288, 0, false);
    }

    /** "The overflow flag is switched on": a result that needs no wrapping leaves it on. */
    @Test
    static void anExactResultLeavesTheFlagOn() {
        DelayLineStore x = computed("add", 524287, 1);
        String[] names = {"add", "sub", "mul", "load", "and", "xor", "store", "count"};
        x.writeWord(1, 2, 0);
        for (String name : names) {
            Texts.assemble(x, "start 2.0; at 2.0; " + name + " 1.2;");
            Check.due("run(1) of " + name, x.run(1), 1);
            Check.due("hasOverflow() after " + name, x.hasOverflow(), true);
        }
    }

    /** "mul: .. then 20 more minor cycles pass": they may end a major cycle, and the operand was read before. */
    @Test
    static void the20CyclesOfAMulMayEndAMajorCycle() {
        DelayLineStore x = slipping("start 0.20; at 0.20; mul 1.21; at 1.21; word 8;");
        x.idle(20);
        x.run(1);
        Check.due("time()", x.time(), 42);
        Check.due("slips(1)", x.slips(1), 1);
        Check.due("accumulator()", x.accumulator(), 0);
        x = slipping("start 0.10; at 0.10; load 1.21 then 0.22; at 0.22; mul 1.23; at 1.21; word 8; at 1.23; word 3;");
        x.run(2);
        Check.due("time() of both", x.time(), 44);
        Check.due("accumulator() of both", x.accumulator(), 24);
        Check.due("readWord(1, 23) has slipped since", x.readWord(1, 23), 6);
    }

    // ---- shifts

    private static void shifted(String name, int count, int accumulator, int due) {
        DelayLineStore x = Texts.computerWith("start 0.0; in; " + name + " " + count + "; stop;");
        x.offerInput(accumulator);
        x.run(1);
        x.idle(31);
        int before = x.time();
        x.run(1);
        String call = accumulator + " " + name + " " + count;
        Check.due(call, x.accumulator(), due);
        Check.due("the minor cycles of " + call, x.time() - before, 1 + 1 + count);
        Check.due("hasOverflow() after " + call, x.hasOverflow(), false);
    }

    /** "With n the operand cycle field": n is 0. */
    @Test
    static void aShiftBy0() {
        shifted("shl", 0, 524287, 524287);
        shifted("shl", 0, -524288, -524288);
        shifted("shr", 0, 524287, 524287);
        shifted("shr", 0, -524288, -524288);
    }

    /** "With n the operand cycle field": n is 31. */
    @Test
    static void aShiftBy31() {
        shifted("shl", 31, 524287, 0);
        shifted("shl", 31, -1, 0);
        shifted("shr", 31, 524287, 0);
        shifted("shr", 31, -1, -1);
        shifted("shr", 31, -524288, -1);
    }

    /** "The wrapped product of the accumulator and 2^n": the last n that leaves something, and the next one. */
    @Test
    static void aShiftToTheLeftOutOfTheWord() {
        shifted("shl", 1, 262143, 524286);
        shifted("shl", 1, 262144, -524288);
        shifted("shl", 1, -262145, 524286);
        shifted("shl", 19, 1, -524288);
        shifted("shl", 19, -1, -524288);
        shifted("shl", 20, -1, 0);
    }

    /** ".. or the accumulator divided by 2^n, rounded down". */
    @Test
    static void aShiftToTheRightRoundsDown() {
        shifted("shr", 1, 1, 0);
        shifted("shr", 1, -1, -1);
        shifted("shr", 1, -3, -2);
        shifted("shr", 18, 524287, 1);
        shifted("shr", 19, 524287, 0);
        shifted("shr", 18, -524288, -2);
        shifted("shr", 19, -524288, -1);
    }

    /** "With n the operand cycle field": the operand tank of a shift means nothing. */
    @Test
    static void theOperandTankOfAShiftMeansNothing() {
        DelayLineStore x = Texts.computerWith("start 0.0; load 1.1; at 1.1; word 5;");
        x.writeWord(0, 1, Texts.word(8, 7, 3, 0, 2));
        x.writeWord(0, 2, Texts.word(9, 7, 1, 0, 3));
        x.run(2);
        Check.due("5 shl 3", x.accumulator(), 40);
        x.run(1);
        Check.due("40 shr 1", x.accumulator(), 20);
        Check.due("the text of the shr", Texts.formatted(x, 0, 2), "shr 1 then 0.3");
    }

    /** "The overflow flag does not change": it stays on. */
    @Test
    static void aShiftLeavesTheFlagOn() {
        DelayLineStore x = computed("add", 524287, 1);
        Texts.assemble(x, "start 2.0; at 2.0; shl 0; shr 0; shl 31; shr 31;");
        x.run(4);
        Check.due("hasOverflow()", x.hasOverflow(), true);
    }

    // ---- jumps

    private static void jump(String name, int accumulator, boolean taken) {
        DelayLineStore x = Texts.computerWith("start 0.0; in; " + name + " 6.20 then 4.7;");
        x.offerInput(accumulator);
        x.run(1);
        x.idle(31);
        int before = x.time();
        x.run(1);
        String call = name + " at " + accumulator;
        Check.due("location() after " + call, x.location(), taken ? 6 * 32 + 20 : 4 * 32 + 7);
        Check.due("the minor cycles of " + call, x.time() - before, 2);
        Check.due("accumulator() after " + call, x.accumulator(), accumulator);
    }

    /** "The jump is taken if the accumulator is negative". */
    @Test
    static void jnegAtTheEdges() {
        jump("jneg", -1, true);
        jump("jneg", 0, false);
        jump("jneg", 1, false);
        jump("jneg", -524288, true);
        jump("jneg", 524287, false);
    }

    /** ".. if it is 0". */
    @Test
    static void jzeroAtTheEdges() {
        jump("jzero", 0, true);
        jump("jzero", 1, false);
        jump("jzero", -1, false);
        jump("jzero", -524288, false);
        jump("jzero", 524287, false);
    }

    /** ".. or if the overflow flag is on": a jover that is not taken leaves it off. */
    @Test
    static void joverWithTheFlagOff() {
        jump("jover", 0, false);
        jump("jover", -1, false);
        DelayLineStore x = Texts.computerWith("start 0.0; jover 6.20;");
        x.run(1);
        Check.due("hasOverflow()", x.hasOverflow(), false);
    }

    /** "A jover that is taken switches the overflow flag off": to itself it is taken once. */
    @Test
    static void joverToItselfIsTakenOnce() {
        DelayLineStore x = computed("add", 524287, 1);
        Texts.assemble(x, "start 3.3; at 3.3; jover 3.3 then 3.9;");
        x.run(1);
        Check.due("location() of the first time", x.location(), 3 * 32 + 3);
        Check.due("hasOverflow()", x.hasOverflow(), false);
        x.run(1);
        Check.due("location() of the second time", x.location(), 3 * 32 + 9);
    }

    /** Only a jover switches the flag off: other jumps that are taken leave it on. */
    @Test
    static void otherJumpsLeaveTheFlagOn() {
        DelayLineStore x = computed("add", 524287, 1);
        Texts.assemble(x, "start 3.3; at 3.3; jneg 3.5; at 3.5; load 3.9; jzero 3.8;");
        x.run(3);
        Check.due("location()", x.location(), 3 * 32 + 8);
        Check.due("hasOverflow()", x.hasOverflow(), true);
    }

    /** "The current location becomes the operand if a jump is taken": to 0.0 and to 7.31. */
    @Test
    static void jumpsToTheFirstAndTheLastLocation() {
        DelayLineStore x = Texts.computerWith("start 0.0; jzero 7.31; at 7.31; jzero 0.0;");
        x.run(1);
        Check.due("location()", x.location(), 255);
        x.run(1);
        Check.due("location()", x.location(), 0);
    }

    // ---- in and out

    /** "If the input queue is empty, the state becomes waiting for input, the current location does not change". */
    @Test
    static void anInWithoutNumbersWaits() {
        DelayLineStore x = Texts.computerWith("start 0.0; load 1.1; in then 5.5; at 1.1; word 77;");
        Check.due("run(500)", x.run(500), 1);
        Check.due("state()", x.state(), 2);
        Check.due("location()", x.location(), 1);
        Check.due("accumulator()", x.accumulator(), 77);
    }

    /** ".. and the instruction does not count as executed": its reading and the waiting for it have passed though. */
    @Test
    static void anInWithoutNumbersTakesItsReading() {
        DelayLineStore x = Texts.computerWith("start 0.0; load 1.1; in then 5.5; at 1.1; word 77;");
        x.run(500);
        Check.due("executed()", x.executed(), 1);
        Check.due("executedAt(0, 1)", x.executedAt(0, 1), 0);
        Check.due("waited()", x.waited(), 31);
        Check.due("time()", x.time(), 34);
    }

    /** An in of cycle 31 that finds nothing ends a major cycle by its reading. */
    @Test
    static void anInOfCycle31WithoutNumbersEndsAMajorCycle() {
        DelayLineStore x = slipping("start 0.31; at 0.31; in;");
        Check.due("run(1)", x.run(1), 0);
        Check.due("time()", x.time(), 32);
        Check.due("slips(1)", x.slips(1), 1);
    }

    /** "Otherwise the first number is removed from the input queue": the last one too, and then it is empty. */
    @Test
    static void anInTakesTheLastNumber() {
        DelayLineStore x = Texts.computerWith("start 0.0; in then 0.0;");
        x.offerInput(-524288);
        x.offerInput(524287);
        Check.due("run(1)", x.run(1), 1);
        Check.due("accumulator()", x.accumulator(), -524288);
        Check.due("run(500)", x.run(500), 1);
        Check.due("accumulator()", x.accumulator(), 524287);
        Check.due("state()", x.state(), 2);
        Check.due("offerInput(3)", x.offerInput(3), 1);
    }

    /** "If the output queue has 64 numbers, the state becomes waiting for output": not with 63. */
    @Test
    static void anOutWith64NumbersWaits() {
        DelayLineStore x = Texts.computerWith("start 0.0; out then 0.0;");
        Check.due("run(63)", x.run(63), 63);
        Check.due("run(1) with 63 numbers", x.run(1), 1);
        Check.due("state()", x.state(), 0);
        Check.due("outputLength()", x.outputLength(), 64);
        Check.due("run(1) with 64 numbers", x.run(1), 0);
        Check.due("state()", x.state(), 3);
        Check.due("outputLength()", x.outputLength(), 64);
    }

    /** ".. the current location does not change, and the instruction does not count as executed." */
    @Test
    static void anOutThatWaitsTakesItsReading() {
        DelayLineStore x = Texts.computerWith("start 0.0; out then 0.0;");
        Check.due("run(500)", x.run(500), 64);
        Check.due("location()", x.location(), 0);
        Check.due("executed()", x.executed(), 64);
        Check.due("executedAt(0, 0)", x.executedAt(0, 0), 64);
        // The 65th time it is read at 64 * 32.
        Check.due("time()", x.time(), 64 * 32 + 1);
        Check.due("waited()", x.waited(), 64 * 30);
    }

    // ---- count

    /** "v is the wrapped value of this word minus 1": of the least word, and of 0 and 1. */
    @Test
    static void aCountWraps() {
        int[][] rows = {{-524288, 524287}, {0, -1}, {1, 0}, {524287, 524286}, {-524287, -524288}};
        for (int[] row : rows) {
            DelayLineStore x = computed("count", 5, row[0]);
            Check.due("accumulator() after a count of " + row[0], x.accumulator(), row[1]);
            Check.due("the word after a count of " + row[0], x.readWord(1, 2), row[1]);
        }
    }

    /** A count names no flag: wrapping does not switch it on. */
    @Test
    static void aCountLeavesTheFlagOff() {
        DelayLineStore x = computed("count", 5, -524288);
        Check.due("hasOverflow()", x.hasOverflow(), false);
    }

    /** "32 minor cycles pass; then the word of the operand becomes v, and one minor cycle passes." */
    @Test
    static void aCountTakes34MinorCycles() {
        DelayLineStore x = Texts.computerWith("start 0.0; count 1.1;");
        x.run(1);
        Check.due("time()", x.time(), 1 + 32 + 1);
        Check.due("waited()", x.waited(), 0);
    }

    /** "32 minor cycles pass; then the word of the operand becomes v": what slipped into it meanwhile is lost. */
    @Test
    static void aCountReplacesWhatSlippedIntoItsWord() {
        DelayLineStore x = slipping("start 0.4; at 0.4; count 1.5; at 1.4; word -524288; word 8;");
        x.run(1);
        Check.due("slips(1)", x.slips(1), 1);
        Check.due("readWord(1, 5)", x.readWord(1, 5), 7);
        Check.due("readWord(1, 4)", x.readWord(1, 4), 0);
    }

    /** ".. becomes v, and one minor cycle passes": of cycle 31, read before one slip and written before the next. */
    @Test
    static void aCountOfCycle31SlipsTwice() {
        DelayLineStore x = slipping("start 0.30; at 0.30; count 1.31; at 1.31; word 5;");
        x.run(1);
        Check.due("time()", x.time(), 64);
        Check.due("slips(1)", x.slips(1), 2);
        Check.due("accumulator()", x.accumulator(), 4);
        Check.due("readWord(1, 31)", x.readWord(1, 31), 8);
    }

    /** A count of its own instruction: the word that was read is executed, and then is one less. */
    @Test
    static void aCountOfItself() {
        DelayLineStore x = Texts.computerWith("start 0.0; count 0.0 then 0.9;");
        int word = x.readWord(0, 0);
        x.run(1);
        Check.due("readWord(0, 0)", x.readWord(0, 0), word - 1);
        Check.due("accumulator()", x.accumulator(), word - 1);
        Check.due("location()", x.location(), 9);
    }

    // ---- afterwards

    /** ".. and otherwise (also after stop) the location of next tank and next cycle." */
    @Test
    static void theLocationAfterAStop() {
        DelayLineStore x = Texts.computerWith("start 0.0; stop then 7.31;");
        x.run(1);
        Check.due("location()", x.location(), 255);
        x = Texts.computerWith("start 7.31; at 7.31; stop then 0.0;");
        x.run(1);
        Check.due("location()", x.location(), 0);
    }

    /** "The instruction counts as executed, in the total count and in the count of the location ..". */
    @Test
    static void aJumpCountsWhereItWasRead() {
        DelayLineStore x = Texts.computerWith("start 7.31; at 7.31; jzero 0.0; at 0.0; stop;");
        x.run(1);
        Check.due("executed()", x.executed(), 1);
        Check.due("executedAt(7, 31)", x.executedAt(7, 31), 1);
        Check.due("executedAt(0, 0)", x.executedAt(0, 0), 0);
        x.run(1);
        Check.due("executed() with the stop", x.executed(), 2);
        Check.due("executedAt(0, 0) with the stop", x.executedAt(0, 0), 1);
    }
}

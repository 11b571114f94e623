import java.util.NoSuchElementException;

/** Running: promises 25 to 39. */
final class RunningTests {
    private RunningTests() {
    }

    /** Runs one instruction at 0.0 at time 0 with a word at 1.5 and an accumulator that was loaded before. */
    private static DelayLineStore afterOne(String instruction, int accumulator, int word) {
        DelayLineStore x = new DelayLineStore();
        Texts.assemble(x, "start 2.0; at 2.0; load 3.1 then 0.0; at 0.0; " + instruction + " then 4.7;");
        x.writeWord(3, 1, accumulator);
        x.writeWord(1, 5, word);
        x.run(1);
        x.idle(30);
        Check.due("run(1) of " + instruction, x.run(1), 1);
        Check.due("executedAt(0, 0) of " + instruction, x.executedAt(0, 0), 1);
        return x;
    }

    private static void arithmetic(String name, int accumulator, int word, int due, boolean overflow) {
        DelayLineStore x = afterOne(name + " 1.5", accumulator, word);
        String call = accumulator + " " + name + " " + word;
        Check.due(call, x.accumulator(), due);
        Check.due(call + " overflow", x.hasOverflow(), overflow);
        Check.due(call + " time", x.time(), name.equals("mul") ? 32 + 26 : 32 + 6);
        Check.due(call + " waited", x.waited(), 4);
        Check.due(call + " location", x.location(), 4 * 32 + 7);
        Check.due(call + " operand", x.readWord(1, 5), word);
    }

    @Test
    static void promise26Load() {
        arithmetic("load", 3, -9, -9, false);
        arithmetic("load", 3, 524287, 524287, false);
        arithmetic("load", 3, -524288, -524288, false);
    }

    @Test
    static void promise26AddAndSub() {
        arithmetic("add", 3, 4, 7, false);
        arithmetic("add", 524287, 1, -524288, true);
        arithmetic("add", 524286, 1, 524287, false);
        arithmetic("add", -524288, -1, 524287, true);
        arithmetic("add", -524288, -524288, 0, true);
        arithmetic("sub", 3, 4, -1, false);
        arithmetic("sub", -524288, 1, 524287, true);
        arithmetic("sub", 524287, -1, -524288, true);
        arithmetic("sub", 0, -524288, -524288, true);
        arithmetic("sub", -1, -524288, 524287, false);
    }

    @Test
    static void promise26AndAndXor() {
        arithmetic("and", 12, 10, 8, false);
        arithmetic("and", -1, -524288, -524288, false);
        arithmetic("and", -4, 7, 4, false);
        arithmetic("xor", 12, 10, 6, false);
        arithmetic("xor", -1, 524287, -524288, false);
        arithmetic("xor", -1, -524288, 524287, false);
    }

    @Test
    static void promise26Mul() {
        arithmetic("mul", 700, 700, 490000, false);
        arithmetic("mul", -700, 700, -490000, false);
        arithmetic("mul", 1024, 512, -524288, true);
        arithmetic("mul", -1024, 512, -524288, false);
        arithmetic("mul", -524288, -524288, 0, true);
        arithmetic("mul", 524287, 524287, 1, true);
        arithmetic("mul", -524288, -1, -524288, true);
    }

    private static void shift(String name, int accumulator, int count, int due) {
        DelayLineStore x = afterOne(name + " " + count, accumulator, 0);
        String call = accumulator + " " + name + " " + count;
        Check.due(call, x.accumulator(), due);
        Check.due(call + " overflow", x.hasOverflow(), false);
        Check.due(call + " time", x.time(), 32 + 1 + 1 + count);
        Check.due(call + " location", x.location(), 4 * 32 + 7);
    }

    @Test
    static void promise26Shifts() {
        shift("shl", 5, 0, 5);
        shift("shl", 5, 3, 40);
        shift("shl", 1, 19, -524288);
        shift("shl", 3, 19, -524288);
        shift("shl", 1, 20, 0);
        shift("shl", -1, 31, 0);
        shift("shl", -3, 1, -6);
        shift("shl", 524287, 1, -2);
        shift("shr", 5, 0, 5);
        shift("shr", 41, 3, 5);
        shift("shr", -1, 1, -1);
        shift("shr", -5, 1, -3);
        shift("shr", 524287, 19, 0);
        shift("shr", -524288, 19, -1);
        shift("shr", 524287, 31, 0);
        shift("shr", -524288, 31, -1);
    }

    @Test
    static void promise26ShiftsKeepTheOverflow() {
        DelayLineStore x = Texts.computerWith(
                "start 0.0; load 1.0; add 1.0; shl 3; shr 2; at 1.0; word 524287;");
        x.run(4);
        Check.due("hasOverflow()", x.hasOverflow(), true);
    }

    @Test
    static void promise26Store() {
        DelayLineStore x = afterOne("store 1.5", -777, 3);
        Check.due("readWord(1, 5)", x.readWord(1, 5), -777);
        Check.due("accumulator()", x.accumulator(), -777);
        Check.due("time()", x.time(), 32 + 6);
        Check.due("waited()", x.waited(), 4);
    }

    private static void jump(String name, int accumulator, boolean taken) {
        DelayLineStore x = afterOne(name + " 6.20", accumulator, 0);
        Check.due(name + " at " + accumulator, x.location(), taken ? 6 * 32 + 20 : 4 * 32 + 7);
        Check.due(name + " time", x.time(), 32 + 2);
        Check.due(name + " waited", x.waited(), 0);
        Check.due(name + " accumulator", x.accumulator(), accumulator);
    }

    @Test
    static void promise26Jumps() {
        jump("jneg", -1, true);
        jump("jneg", -524288, true);
        jump("jneg", 0, false);
        jump("jneg", 1, false);
        jump("jzero", 0, true);
        jump("jzero", 1, false);
        jump("jzero", -1, false);
        jump("jover", -1, false);
        jump("jover", 0, false);
    }

    @Test
    static void promises26And31Jover() {
        DelayLineStore x = Texts.computerWith(
                "start 0.0; load 1.0; add 1.0; jover 0.5; stop; at 0.5; jover 0.0; stop; at 1.0; word 524287;");
        x.run(2);
        Check.due("hasOverflow()", x.hasOverflow(), true);
        x.run(1);
        Check.due("hasOverflow() after the jump", x.hasOverflow(), false);
        Check.due("location()", x.location(), 5);
        x.run(1);
        Check.due("location()", x.location(), 6);
        x.run(1);
        Check.due("state()", x.state(), 1);
    }

    @Test
    static void promise26OverflowStays() {
        DelayLineStore x = Texts.computerWith(
                "start 0.0; load 1.0; add 1.0; add 1.1; mul 1.1; jneg 0.0; jzero 0.0; store 1.2;"
                + " at 1.0; word 524287; word 1;");
        x.run(6);
        Check.due("hasOverflow()", x.hasOverflow(), true);
    }

    @Test
    static void promise26Count() {
        DelayLineStore x = afterOne("count 1.5", 9, 3);
        Check.due("accumulator()", x.accumulator(), 2);
        Check.due("readWord(1, 5)", x.readWord(1, 5), 2);
        Check.due("time()", x.time(), 32 + 5 + 33);
        Check.due("waited()", x.waited(), 4);
        Check.due("hasOverflow()", x.hasOverflow(), false);
        x = afterOne("count 1.5", 9, -524288);
        Check.due("accumulator()", x.accumulator(), 524287);
        Check.due("readWord(1, 5)", x.readWord(1, 5), 524287);
        Check.due("hasOverflow()", x.hasOverflow(), false);
    }

    @Test
    static void promise26CountWritesAfterTheSlip() {
        DelayLineStore x = Texts.computerWith("start 0.0; count 1.5; at 1.4; word 1; word 8;");
        x.setTemperature(1, 427);
        x.run(1);
        Check.due("slips(1)", x.slips(1), 1);
        Check.due("readWord(1, 5)", x.readWord(1, 5), 7);
        Check.due("readWord(1, 4) has slipped", x.readWord(1, 4), 2);
    }

    @Test
    static void promise26TheOperandIsReadAfterTheSlip() {
        DelayLineStore x = Texts.computerWith("start 0.31; at 0.31; load 1.5; at 1.5; word 8;");
        x.setTemperature(1, 427);
        x.run(1);
        Check.due("accumulator()", x.accumulator(), 16);
        x = Texts.computerWith("start 0.5; at 0.5; load 1.6; at 1.6; word 8;");
        x.setTemperature(1, 427);
        x.run(1);
        Check.due("accumulator() before the slip", x.accumulator(), 8);
    }

    @Test
    static void promise26TheOperandOfTheLastCycleIsReadBeforeTheSlip() {
        DelayLineStore x = Texts.computerWith("start 0.5; at 0.5; load 1.31; at 1.31; word 8;");
        x.setTemperature(1, 427);
        x.run(1);
        Check.due("accumulator()", x.accumulator(), 8);
        Check.due("readWord(1, 31)", x.readWord(1, 31), 16);
        Check.due("slips(1)", x.slips(1), 1);
    }

    @Test
    static void promise26Stop() {
        DelayLineStore x = Texts.computerWith("start 0.4; at 0.4; stop then 3.9;");
        Check.due("run(500)", x.run(500), 1);
        Check.due("state()", x.state(), 1);
        Check.due("location()", x.location(), 3 * 32 + 9);
        Check.due("time()", x.time(), 5);
        Check.due("waited()", x.waited(), 4);
        Check.due("executed()", x.executed(), 1);
        Check.due("executedAt(0, 4)", x.executedAt(0, 4), 1);
        Check.badState("run(1) of a stopped computer", () -> x.run(1));
    }

    @Test
    static void promise26CountOfInstructions() {
        DelayLineStore x = Texts.computerWith("start 0.0; jzero 0.2; at 0.2; jzero 0.0;");
        Check.due("run(1)", x.run(1), 1);
        Check.due("run(500)", x.run(500), 500);
        Check.due("executed()", x.executed(), 501);
        Check.due("executedAt(0, 0)", x.executedAt(0, 0), 251);
        Check.due("executedAt(0, 2)", x.executedAt(0, 2), 250);
        Check.due("time()", x.time(), 32 * 250 + 2);
        Check.due("waited()", x.waited(), 28 * 250);
        Check.badArgument("run(0)", () -> x.run(0));
        Check.badArgument("run(501)", () -> x.run(501));
        Check.badArgument("run(MIN)", () -> x.run(Integer.MIN_VALUE));
        Check.due("executed()", x.executed(), 501);
    }

    @Test
    static void promise26ArgumentsComeBeforeTheState() {
        DelayLineStore x = new DelayLineStore();
        Check.badState("run(1)", () -> x.run(1));
        Check.badArgument("run(0)", () -> x.run(0));
        Check.badArgument("run(501)", () -> x.run(501));
        Check.badState("predictTime(1)", () -> x.predictTime(1));
        Check.badArgument("predictTime(0)", () -> x.predictTime(0));
        Check.badArgument("predictTime(501)", () -> x.predictTime(501));
        Check.due("time()", x.time(), 0);
    }

    @Test
    static void promises25And32Start() {
        DelayLineStore x = new DelayLineStore();
        x.start(7, 31);
        Check.due("state()", x.state(), 0);
        Check.due("location()", x.location(), 255);
        Check.outOfBounds("start(8, 0)", () -> x.start(8, 0));
        Check.outOfBounds("start(-1, 0)", () -> x.start(-1, 0));
        Check.outOfBounds("start(0, 32)", () -> x.start(0, 32));
        Check.outOfBounds("start(0, -1)", () -> x.start(0, -1));
        Check.due("location()", x.location(), 255);
        x.start(2, 3);
        Check.due("location()", x.location(), 67);
        Check.due("time()", x.time(), 0);
    }

    @Test
    static void promise25StartKeepsTheRest() {
        DelayLineStore x = Texts.computerWith("start 0.0; load 1.0; add 1.0; in; at 1.0; word 524287;");
        x.run(3);
        Check.due("state()", x.state(), 2);
        int before = x.time();
        x.start(0, 0);
        Check.due("state()", x.state(), 0);
        Check.due("accumulator()", x.accumulator(), -2);
        Check.due("hasOverflow()", x.hasOverflow(), true);
        Check.due("time()", x.time(), before);
        Check.due("executed()", x.executed(), 2);
    }

    @Test
    static void promises27And28Idle() {
        DelayLineStore x = new DelayLineStore();
        Check.due("idle(1)", x.idle(1), 1);
        Check.due("idle(3200)", x.idle(3200), 3201);
        Check.due("time()", x.time(), 3201);
        Check.badArgument("idle(0)", () -> x.idle(0));
        Check.badArgument("idle(-1)", () -> x.idle(-1));
        Check.badArgument("idle(3201)", () -> x.idle(3201));
        Check.due("time()", x.time(), 3201);
        Check.due("waited()", x.waited(), 0);
        Check.due("executed()", x.executed(), 0);
        Check.due("state()", x.state(), 1);
        x.start(0, 0);
        x.idle(1);
        Check.due("state()", x.state(), 0);
        Check.due("location()", x.location(), 0);
    }

    @Test
    static void promises29And33Input() {
        DelayLineStore x = Texts.computerWith("start 0.0; in; in; stop;");
        Check.due("offerInput(-524288)", x.offerInput(-524288), 1);
        Check.due("offerInput(524287)", x.offerInput(524287), 2);
        Check.due("run(1)", x.run(1), 1);
        Check.due("accumulator()", x.accumulator(), -524288);
        Check.due("time()", x.time(), 2);
        Check.due("run(1)", x.run(1), 1);
        Check.due("accumulator()", x.accumulator(), 524287);
        Check.due("time()", x.time(), 32 + 3);
        Check.due("location()", x.location(), 2);
        Check.due("state()", x.state(), 0);
        Check.badArgument("offerInput(524288)", () -> x.offerInput(524288));
        Check.badArgument("offerInput(-524289)", () -> x.offerInput(-524289));
        Check.due("offerInput(0)", x.offerInput(0), 1);
    }

    @Test
    static void promises29And33WaitingForInput() {
        DelayLineStore x = Texts.computerWith("start 0.3; at 0.3; in then 0.6; at 0.6; stop;");
        Check.due("run(9)", x.run(9), 0);
        Check.due("state()", x.state(), 2);
        Check.due("location()", x.location(), 3);
        Check.due("time()", x.time(), 4);
        Check.due("waited()", x.waited(), 3);
        Check.due("executed()", x.executed(), 0);
        Check.due("executedAt(0, 3)", x.executedAt(0, 3), 0);
        Check.badState("run(1) of a waiting computer", () -> x.run(1));
        Check.badState("predictTime(1) of a waiting computer", () -> x.predictTime(1));
        Check.badArgument("offerInput(524288)", () -> x.offerInput(524288));
        Check.due("state()", x.state(), 2);
        Check.due("offerInput(-7)", x.offerInput(-7), 1);
        Check.due("state()", x.state(), 0);
        Check.due("run(9)", x.run(9), 2);
        Check.due("accumulator()", x.accumulator(), -7);
        Check.due("time()", x.time(), 35 + 2 + 2);
        Check.due("waited()", x.waited(), 3 + 31 + 1);
    }

    @Test
    static void promise33AFullQueue() {
        DelayLineStore x = new DelayLineStore();
        for (int i = 1; i <= 64; i++) {
            Check.due("offerInput " + i, x.offerInput(i), i);
        }
        Check.badState("offerInput of the 65th", () -> x.offerInput(65));
        Check.badArgument("offerInput(524288) of the 65th", () -> x.offerInput(524288));
        Check.due("state() stays stopped", x.state(), 1);
        Texts.assemble(x, "start 0.0; in then 0.0;");
        for (int i = 1; i <= 40; i++) {
            x.run(1);
            Check.due("number " + i, x.accumulator(), i);
        }
        for (int i = 25; i <= 64; i++) {
            Check.due("offerInput " + i, x.offerInput(i + 1000), i);
        }
        Check.badState("offerInput of the 65th", () -> x.offerInput(65));
        x.run(24);
        Check.due("the 64th number", x.accumulator(), 64);
        x.run(1);
        Check.due("the 65th number", x.accumulator(), 1025);
    }

    @Test
    static void promise33AStoppedComputerStaysSo() {
        DelayLineStore x = Texts.computerWith("start 0.0; out then 0.0;");
        x.run(64);
        x.run(1);
        Check.due("state()", x.state(), 3);
        x.offerInput(1);
        Check.due("state() after an input", x.state(), 3);
        DelayLineStore y = Texts.computerWith("start 0.0; out; in;");
        y.run(2);
        Check.due("state()", y.state(), 2);
        y.takeOutput();
        Check.due("state() after an output", y.state(), 2);
    }

    @Test
    static void promises34And35Output() {
        DelayLineStore x = Texts.computerWith("start 0.0; count 1.0; out then 0.0; at 1.0; word 100;");
        Check.thrown("takeOutput() of an empty queue", () -> x.takeOutput(), NoSuchElementException.class);
        Check.due("outputLength()", x.outputLength(), 0);
        Check.due("run(500)", x.run(500), 129);
        Check.due("outputLength()", x.outputLength(), 64);
        Check.due("state()", x.state(), 3);
        Check.due("location()", x.location(), 1);
        Check.due("executedAt(0, 1)", x.executedAt(0, 1), 64);
        Check.badState("run(1) of a waiting computer", () -> x.run(1));
        int before = x.time();
        Check.due("takeOutput()", x.takeOutput(), 99);
        Check.due("state()", x.state(), 0);
        Check.due("outputLength()", x.outputLength(), 63);
        Check.due("run(1)", x.run(1), 1);
        Check.due("time()", x.time(), before + 31 + 2);
        Check.due("outputLength()", x.outputLength(), 64);
        for (int i = 98; i >= 35; i--) {
            Check.due("takeOutput()", x.takeOutput(), i);
        }
        Check.thrown("takeOutput() of an empty queue", () -> x.takeOutput(), NoSuchElementException.class);
    }

    @Test
    static void promise34AStoppedComputerStaysSo() {
        DelayLineStore x = Texts.computerWith("start 0.0; out; stop;");
        x.run(5);
        x.takeOutput();
        Check.due("state()", x.state(), 1);
    }

    @Test
    static void promises36And37Executed() {
        DelayLineStore x = Texts.computerWith("start 0.0; in; jzero 7.31; at 7.31; stop then 0.0;");
        x.offerInput(0);
        Check.due("run(10)", x.run(10), 3);
        Check.due("executed()", x.executed(), 3);
        Check.due("executedAt(0, 0)", x.executedAt(0, 0), 1);
        Check.due("executedAt(0, 1)", x.executedAt(0, 1), 1);
        Check.due("executedAt(7, 31)", x.executedAt(7, 31), 1);
        Check.due("executedAt(0, 2)", x.executedAt(0, 2), 0);
        x.start(7, 31);
        x.run(1);
        Check.due("executedAt(7, 31)", x.executedAt(7, 31), 2);
        Check.due("executed()", x.executed(), 4);
        Check.outOfBounds("executedAt(8, 0)", () -> x.executedAt(8, 0));
        Check.outOfBounds("executedAt(-1, 0)", () -> x.executedAt(-1, 0));
        Check.outOfBounds("executedAt(0, 32)", () -> x.executedAt(0, 32));
        Check.outOfBounds("executedAt(0, -1)", () -> x.executedAt(0, -1));
    }

    @Test
    static void promise38Waited() {
        DelayLineStore x = Texts.computerWith("start 0.3; at 0.3; load 1.3 then 0.3;");
        x.run(1);
        Check.due("waited()", x.waited(), 3 + 31);
        Check.due("time()", x.time(), 36);
        x.run(1);
        Check.due("waited()", x.waited(), 34 + 31 + 31);
        x.idle(9);
        Check.due("waited()", x.waited(), 96);
    }

    @Test
    static void promise39PredictTime() {
        DelayLineStore x = Texts.computerWith(
                "start 0.0; count 1.5; jneg 0.4; out; load 1.5 then 0.0; stop; at 1.5; word 2;");
        x.setTemperature(6, 414);
        x.writeWord(6, 0, -1);
        Check.due("predictTime(1)", x.predictTime(1), 38);
        int predicted = x.predictTime(500);
        Check.due("time()", x.time(), 0);
        Check.due("readWord(1, 5)", x.readWord(1, 5), 2);
        Check.due("executed()", x.executed(), 0);
        Check.due("executedAt(0, 0)", x.executedAt(0, 0), 0);
        Check.due("outputLength()", x.outputLength(), 0);
        Check.due("dropouts()", x.dropouts(), 0);
        Check.due("temperature(6)", x.temperature(6), 414);
        Check.due("bitCount(6)", x.bitCount(6), 20);
        Check.due("accumulator()", x.accumulator(), 0);
        Check.due("waited()", x.waited(), 0);
        Check.due("state()", x.state(), 0);
        x.run(500);
        Check.due("predictTime(500)", predicted, x.time());
        Check.badState("predictTime(1) of a stopped computer", () -> x.predictTime(1));
    }

    @Test
    static void promise39Waits() {
        DelayLineStore x = Texts.computerWith("start 0.0; in; stop;");
        Check.due("predictTime(5) without input", x.predictTime(5), 1);
        Check.due("state()", x.state(), 0);
        x.offerInput(3);
        Check.due("predictTime(5)", x.predictTime(5), 34);
        Check.due("offerInput(4)", x.offerInput(4), 2);
        x.run(1);
        Check.due("accumulator()", x.accumulator(), 3);
    }

    @Test
    static void promise39FollowsTheInput() {
        DelayLineStore x = Texts.computerWith("start 0.0; in; jneg 0.4; stop; at 0.4; mul 0.5; stop;");
        x.offerInput(5);
        Check.due("predictTime(9) of 5", x.predictTime(9), x.pathTime(0, 0, 9));
        DelayLineStore y = Texts.computerWith("start 0.0; in; jneg 0.4; stop; at 0.4; mul 0.5; stop;");
        y.offerInput(-5);
        int predicted = y.predictTime(9);
        Check.due("predictTime(9) of -5", predicted, 37 + 22 + 11);
        y.run(9);
        Check.due("time()", y.time(), predicted);
    }
}

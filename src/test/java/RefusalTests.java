import java.util.ArrayList;
import java.util.List;
import java.util.NoSuchElementException;
import java.util.function.Supplier;

/**
 * The calls that are refused, a test for each "Throws" of the document: what is thrown, at the edge and
 * far from it, and that the call changes nothing. For this a computer in the middle of its work is asked
 * for everything that can be seen of it later, and so is one that was not given the refused call.
 */
final class RefusalTests {
    private static final int MIN = Integer.MIN_VALUE;
    private static final int MAX = Integer.MAX_VALUE;
    private static final int[][] NO_LOCATIONS = {
        {-1, 0}, {8, 0}, {0, -1}, {0, 32}, {-1, 31}, {8, 31}, {7, 32}, {7, -1}, {MIN, 0}, {MAX, 0}, {0, MIN}, {0, MAX},
    };
    private static final int[] NO_TANKS = {-1, 8, 9, MIN, MAX};
    private static final int[] NO_WORDS = {-524289, 524288, MIN, MAX};
    private static final int[] NO_TEMPERATURES = {-1, 1001, MIN, MAX};

    private static final Class<IndexOutOfBoundsException> BOUNDS = IndexOutOfBoundsException.class;
    private static final Class<IllegalArgumentException> ARGUMENT = IllegalArgumentException.class;
    private static final Class<IllegalStateException> STATE = IllegalStateException.class;

    private RefusalTests() {
    }

    private interface Change {
        void on(DelayLineStore x);
    }

    private interface LocationCall {
        void on(DelayLineStore x, int tank, int cycle);
    }

    private interface NumberCall {
        void on(DelayLineStore x, int number);
    }

    // ---- what is compared

    /** Ready at 0.0, with numbers in both queues, a flag, snapshots, a text, an error and a formatted text. */
    private static DelayLineStore busyComputer() {
        DelayLineStore x = Texts.computerWith("load 1.3; add 1.3; out; in then 0.0; at 1.3; word 524287;");
        x.setTemperature(2, 452);
        x.setTemperature(3, 414);
        x.writeWord(2, 5, 12345);
        x.writeWord(3, 0, -1);
        for (int value = 1; value <= 4; value++) {
            x.offerInput(value);
        }
        x.start(0, 0);
        x.run(8);
        x.save(0);
        x.setOven(408);
        x.setPilotTemperature(390);
        x.setFixedPeriod(1000100);
        x.run(4);
        x.save(1);
        x.writeWord(4, 4, 77);
        Texts.put(x, "word 600000;");
        tell(new ArrayList<>(), "", x::assemble);
        x.format(1, 3);
        Texts.put(x, "at 5.5; word 55;");
        return x;
    }

    /** The same with 60 numbers more in the input queue, which is full with them, and stopped. */
    private static DelayLineStore fullComputer() {
        DelayLineStore x = busyComputer();
        while (tell(new ArrayList<>(), "", () -> x.offerInput(9))) {
            continue;
        }
        return x;
    }

    private static DelayLineStore stoppedComputer() {
        DelayLineStore x = busyComputer();
        x.writeWord(6, 0, 0);
        x.start(6, 0);
        x.run(1);
        return x;
    }

    private static DelayLineStore computerWaitingForInput() {
        DelayLineStore x = busyComputer();
        x.run(20);
        Check.due("state() of a computer without input", x.state(), 2);
        return x;
    }

    private static DelayLineStore computerWaitingForOutput() {
        DelayLineStore x = busyComputer();
        x.writeWord(6, 0, Texts.word(14, 0, 0, 6, 0));
        x.start(6, 0);
        x.run(100);
        Check.due("state() of a computer with a full output", x.state(), 3);
        return x;
    }

    /** Notes the answer of a call, or what it throws; tells whether it answered. */
    private static boolean tell(List<String> answers, String call, Supplier<Object> made) {
        try {
            answers.add(call + " " + made.get());
            return true;
        } catch (RuntimeException e) {
            answers.add(call + " throws." + e.getClass().getSimpleName());
            return false;
        }
    }

    private static void tellState(List<String> answers, DelayLineStore x) {
        for (int tank = 0; tank < 8; tank++) {
            answers.add("tank " + tank + " " + x.temperature(tank) + " " + x.slips(tank) + " " + x.bitCount(tank));
        }
        int[][] places = {{0, 0}, {0, 3}, {1, 3}, {2, 5}, {3, 0}, {4, 4}, {5, 5}, {7, 31}};
        for (int[] place : places) {
            tell(answers, "readWord " + place[0] + "." + place[1], () -> x.readWord(place[0], place[1]));
        }
        answers.add("executedAt " + x.executedAt(0, 0) + " " + x.executedAt(0, 3) + " " + x.executedAt(6, 0));
        answers.add("totals " + x.time() + " " + x.executed() + " " + x.waited() + " " + x.dropouts());
        answers.add("state " + x.state() + " " + x.location() + " " + x.accumulator() + " " + x.hasOverflow());
        answers.add("clock " + x.period() + " " + x.leastSafeTemperature() + " " + x.unsafeAfter());
        answers.add("output " + x.outputLength());
        tell(answers, "predictTime(9)", () -> x.predictTime(9));
    }

    private static void tellText(List<String> answers, DelayLineStore x) {
        answers.add("error " + x.errorCode() + " " + x.errorPosition());
        int bytes = 0;
        while (bytes < 30 && formattedByteIsTold(answers, x, bytes)) {
            bytes++;
        }
        tell(answers, "truncate(600)", () -> x.truncate(600));
        tell(answers, "truncate(581)", () -> x.truncate(581));
        tell(answers, "truncate(17)", () -> x.truncate(17));
        tell(answers, "append", () -> x.append(0x20202020, 0x20202020, 0x20202020, 0x20202020, 0x20202020));
        tell(answers, "assemble()", x::assemble);
        tell(answers, "readWord 5.5", () -> x.readWord(5, 5));
    }

    private static boolean formattedByteIsTold(List<String> answers, DelayLineStore x, int index) {
        return tell(answers, "formattedByte(" + index + ")", () -> x.formattedByte(index));
    }

    private static void tellSettingsAndQueues(List<String> answers, DelayLineStore x) {
        tell(answers, "setOven(400)", () -> x.setOven(400));
        tell(answers, "setPilotTemperature(400)", () -> x.setPilotTemperature(400));
        tell(answers, "setFixedPeriod(1000000)", () -> x.setFixedPeriod(1000000));
        tell(answers, "setPilot(false)", () -> x.setPilot(false));
        while (tell(answers, "takeOutput()", x::takeOutput)) {
            continue;
        }
        x.writeWord(7, 7, Texts.word(13, 0, 0, 7, 7));
        x.start(7, 7);
        while (x.run(1) == 1) {
            answers.add("accumulator " + x.accumulator());
        }
    }

    /** Everything that can be seen of a computer from now on; about 300 calls. */
    private static List<String> future(DelayLineStore x) {
        List<String> answers = new ArrayList<>();
        tellState(answers, x);
        tellText(answers, x);
        tellSettingsAndQueues(answers, x);
        for (int slot = 0; slot < 2; slot++) {
            int restored = slot;
            tell(answers, "restore(" + slot + ")", () -> {
                x.restore(restored);
                return "";
            });
            tellState(answers, x);
        }
        return answers;
    }

    private static void compare(String call, List<String> got, List<String> due) {
        Check.due("the answers behind " + call, got.size(), due.size());
        for (int i = 0; i < got.size() && i < due.size(); i++) {
            if (!got.get(i).equals(due.get(i))) {
                Check.due("what follows on " + call, got.get(i), due.get(i));
                return;
            }
        }
    }

    private static void refused(String call, Supplier<DelayLineStore> maker, Class<?> want, Change change) {
        DelayLineStore x = maker.get();
        Check.thrown(call, () -> change.on(x), want);
        compare(call, future(x), future(maker.get()));
    }

    private static void refused(String call, Class<?> want, Change change) {
        refused(call, RefusalTests::busyComputer, want, change);
    }

    private static void refusedLocations(String name, LocationCall call) {
        for (int[] place : NO_LOCATIONS) {
            refused(name + " of " + place[0] + "." + place[1], BOUNDS, x -> call.on(x, place[0], place[1]));
        }
    }

    private static void refusedNumbers(String name, Class<?> want, int[] numbers, NumberCall call) {
        for (int number : numbers) {
            refused(name + " of " + number, want, x -> call.on(x, number));
        }
    }

    /** The comparison itself: a change of any kind is seen by it. */
    @Test
    static void theComparisonSeesChanges() {
        Change[] changes = {
            x -> x.append(1, 2, 3, 4, 5), x -> x.truncate(3), x -> x.assemble(), x -> x.writeWord(0, 0, 0),
            x -> x.clearTank(2), x -> x.swapTanks(6, 2), x -> x.setTemperature(7, 403), x -> x.setOven(0),
            x -> x.setPilotTemperature(391), x -> x.setPilot(true), x -> x.setFixedPeriod(1000101),
            x -> x.start(0, 1), x -> x.run(1), x -> x.idle(1), x -> x.offerInput(0), x -> x.takeOutput(),
            x -> x.moveNext(0, 0, 0), x -> x.format(0, 0), x -> x.save(0), x -> x.save(1), x -> x.restore(0),
            x -> x.restore(1),
        };
        List<String> due = future(busyComputer());
        for (int i = 0; i < changes.length; i++) {
            DelayLineStore x = busyComputer();
            changes[i].on(x);
            Check.due("change " + i + " is overlooked", future(x).equals(due), false);
        }
        Check.due("the same twice", future(busyComputer()).equals(due), true);
    }

    // ---- promises 2 to 6

    /** "Throws IllegalStateException if the length would exceed 600." */
    @Test
    static void promise02TheBufferIsFull() {
        for (int length : new int[] {581, 590, 600}) {
            Supplier<DelayLineStore> maker = () -> {
                DelayLineStore x = busyComputer();
                x.truncate(0);
                Texts.put(x, "at 5.5; word 55;" + " ".repeat(length - 16));
                return x;
            };
            refused("append to " + length + " bytes", maker, STATE, x -> x.append(0x3F3F3F3F, 0, 0, 0, 0));
        }
        DelayLineStore x = new DelayLineStore();
        Texts.put(x, " ".repeat(580));
        Check.due("append to 580 bytes", x.append(0, 0, 0, 0, 0), 600);
    }

    /** "Throws IndexOutOfBoundsException if length is negative or greater than the current length." */
    @Test
    static void promise03NoLengthOfTheBuffer() {
        refusedNumbers("truncate", BOUNDS, new int[] {-1, 17, 600, MIN, MAX}, (x, length) -> x.truncate(length));
        DelayLineStore x = new DelayLineStore();
        Check.outOfBounds("truncate(1) of an empty buffer", () -> x.truncate(1));
        Check.outOfBounds("truncate(-1) of an empty buffer", () -> x.truncate(-1));
    }

    /** "If the text has an error; the store and the computer do not change then, but the error code and position". */
    @Test
    static void promise04ATextWithAnError() {
        DelayLineStore x = busyComputer();
        DelayLineStore y = busyComputer();
        Texts.put(x, " start 6.6; at 6.6; word 1; at 0.0; word 1; at 0.0; word 1;");
        Check.badArgument("assemble()", () -> x.assemble());
        Check.due("errorCode()", x.errorCode(), 3);
        Check.due("errorPosition()", x.errorPosition(), 16 + 52);
        Check.due("truncate(0): the buffer is empty", x.truncate(0), 0);
        Check.outOfBounds("truncate(1): the buffer is empty", () -> x.truncate(1));
        y.truncate(0);
        Texts.put(y, "shl 99;");
        tell(new ArrayList<>(), "", y::assemble);
        List<String> got = future(x);
        List<String> due = future(y);
        got.removeIf(line -> line.startsWith("error "));
        due.removeIf(line -> line.startsWith("error "));
        compare("a text with an error", got, due);
    }

    /** "The buffer is empty afterwards in every case": after an error of each code. */
    @Test
    static void promise04TheBufferIsEmptyAfterAnError() {
        String[] texts = {"?", "shl 32;", "in; at 0.0; in;"};
        for (int code = 1; code <= 3; code++) {
            DelayLineStore x = new DelayLineStore();
            Texts.put(x, texts[code - 1]);
            Check.badArgument("assemble() of " + texts[code - 1], () -> x.assemble());
            Check.due("errorCode()", x.errorCode(), code);
            Check.outOfBounds("truncate(1)", () -> x.truncate(1));
            Check.due("assemble() again", x.assemble(), 0);
        }
    }

    // ---- promises 7 to 13

    @Test
    static void promise07NoLocation() {
        refusedLocations("readWord", (x, tank, cycle) -> x.readWord(tank, cycle));
    }

    @Test
    static void promise08NoLocation() {
        refusedLocations("writeWord", (x, tank, cycle) -> x.writeWord(tank, cycle, 5));
    }

    @Test
    static void promise08NoWord() {
        refusedNumbers("writeWord", ARGUMENT, NO_WORDS, (x, value) -> x.writeWord(0, 0, value));
        refusedNumbers("writeWord", ARGUMENT, NO_WORDS, (x, value) -> x.writeWord(7, 31, value));
    }

    @Test
    static void promise09NoTank() {
        refusedNumbers("clearTank", BOUNDS, NO_TANKS, (x, tank) -> x.clearTank(tank));
    }

    @Test
    static void promise10NoTank() {
        refusedNumbers("swapTanks first", BOUNDS, NO_TANKS, (x, tank) -> x.swapTanks(tank, 2));
        refusedNumbers("swapTanks second", BOUNDS, NO_TANKS, (x, tank) -> x.swapTanks(2, tank));
        refusedNumbers("swapTanks both", BOUNDS, NO_TANKS, (x, tank) -> x.swapTanks(tank, tank));
    }

    @Test
    static void promise11NoTank() {
        refusedNumbers("bitCount", BOUNDS, NO_TANKS, (x, tank) -> x.bitCount(tank));
    }

    @Test
    static void promise12NoTank() {
        refusedNumbers("slips", BOUNDS, NO_TANKS, (x, tank) -> x.slips(tank));
    }

    // ---- promises 14 to 24

    @Test
    static void promise14NoTank() {
        refusedNumbers("setTemperature", BOUNDS, NO_TANKS, (x, tank) -> x.setTemperature(tank, 500));
    }

    @Test
    static void promise14NoTemperature() {
        refusedNumbers("setTemperature", ARGUMENT, NO_TEMPERATURES, (x, t) -> x.setTemperature(0, t));
        refusedNumbers("setTemperature", ARGUMENT, NO_TEMPERATURES, (x, t) -> x.setTemperature(7, t));
    }

    @Test
    static void promise15NoTank() {
        refusedNumbers("temperature", BOUNDS, NO_TANKS, (x, tank) -> x.temperature(tank));
    }

    @Test
    static void promise16NoTemperature() {
        refusedNumbers("setOven", ARGUMENT, NO_TEMPERATURES, (x, t) -> x.setOven(t));
    }

    @Test
    static void promise17NoTemperature() {
        refusedNumbers("setPilotTemperature", ARGUMENT, NO_TEMPERATURES, (x, t) -> x.setPilotTemperature(t));
    }

    @Test
    static void promise19NoPeriod() {
        int[] periods = {899999, 1100001, 0, -1000000, MIN, MAX};
        refusedNumbers("setFixedPeriod", ARGUMENT, periods, (x, period) -> x.setFixedPeriod(period));
    }

    @Test
    static void promise21NoTank() {
        refusedNumbers("mismatch", BOUNDS, NO_TANKS, (x, tank) -> x.mismatch(tank));
    }

    // ---- promises 25 to 39

    @Test
    static void promise25NoLocation() {
        refusedLocations("start", (x, tank, cycle) -> x.start(tank, cycle));
    }

    @Test
    static void promise26NoCount() {
        refusedNumbers("run", ARGUMENT, new int[] {0, 501, -1, MIN, MAX}, (x, count) -> x.run(count));
    }

    @Test
    static void promise26NotReady() {
        refused("run(1), never started", DelayLineStore::new, STATE, x -> x.run(1));
        refused("run(1), stopped", RefusalTests::stoppedComputer, STATE, x -> x.run(1));
        refused("run(500), stopped", RefusalTests::stoppedComputer, STATE, x -> x.run(500));
        refused("run(1), waiting for input", RefusalTests::computerWaitingForInput, STATE, x -> x.run(1));
        refused("run(1), waiting for output", RefusalTests::computerWaitingForOutput, STATE, x -> x.run(1));
    }

    @Test
    static void promise27NoCount() {
        refusedNumbers("idle", ARGUMENT, new int[] {0, 3201, -1, -32, MIN, MAX}, (x, count) -> x.idle(count));
    }

    @Test
    static void promise33NoWord() {
        refusedNumbers("offerInput", ARGUMENT, NO_WORDS, (x, value) -> x.offerInput(value));
        refused("offerInput(524288), waiting for input", RefusalTests::computerWaitingForInput, ARGUMENT,
                x -> x.offerInput(524288));
    }

    /** "Throws IllegalStateException if the input queue has 64 numbers." */
    @Test
    static void promise33TheQueueIsFull() {
        refused("offerInput(1) of the 65th", RefusalTests::fullComputer, STATE, x -> x.offerInput(1));
    }

    /** "Throws NoSuchElementException if the output queue is empty." */
    @Test
    static void promise34TheQueueIsEmpty() {
        Supplier<DelayLineStore> maker = () -> {
            DelayLineStore x = busyComputer();
            while (x.outputLength() > 0) {
                x.takeOutput();
            }
            return x;
        };
        refused("takeOutput(), all taken", maker, NoSuchElementException.class, x -> x.takeOutput());
        refused("takeOutput(), new", DelayLineStore::new, NoSuchElementException.class, x -> x.takeOutput());
    }

    @Test
    static void promise37NoLocation() {
        refusedLocations("executedAt", (x, tank, cycle) -> x.executedAt(tank, cycle));
    }

    @Test
    static void promise39NoCount() {
        int[] counts = {0, 501, -1, MIN, MAX};
        refusedNumbers("predictTime", ARGUMENT, counts, (x, count) -> x.predictTime(count));
    }

    @Test
    static void promise39NotReady() {
        refused("predictTime(1), never started", DelayLineStore::new, STATE, x -> x.predictTime(1));
        refused("predictTime(1), stopped", RefusalTests::stoppedComputer, STATE, x -> x.predictTime(1));
        refused("predictTime(1), without input", RefusalTests::computerWaitingForInput, STATE,
                x -> x.predictTime(1));
        refused("predictTime(1), full output", RefusalTests::computerWaitingForOutput, STATE,
                x -> x.predictTime(1));
    }

    // ---- promises 40 to 45

    @Test
    static void promise40NoLocation() {
        refusedLocations("idealNextCycle", (x, tank, cycle) -> x.idealNextCycle(tank, cycle));
    }

    @Test
    static void promise41NoLocation() {
        refusedLocations("pathTime", (x, tank, cycle) -> x.pathTime(tank, cycle, 5));
    }

    @Test
    static void promise41NoCount() {
        int[] counts = {0, 201, -1, MIN, MAX};
        refusedNumbers("pathTime", ARGUMENT, counts, (x, count) -> x.pathTime(0, 0, count));
    }

    @Test
    static void promise42NoLocationOrTank() {
        refusedLocations("bestFreeCycle", (x, tank, cycle) -> x.bestFreeCycle(tank, cycle, 2));
        refusedNumbers("bestFreeCycle", BOUNDS, NO_TANKS, (x, target) -> x.bestFreeCycle(0, 0, target));
    }

    @Test
    static void promise43NoLocationOrTank() {
        refusedLocations("moveNext", (x, tank, cycle) -> x.moveNext(tank, cycle, 2));
        refusedNumbers("moveNext", BOUNDS, NO_TANKS, (x, target) -> x.moveNext(0, 0, target));
    }

    /** "Throws IllegalStateException if bestFreeCycle() is NONE". */
    @Test
    static void promise43NoFreeCycle() {
        Supplier<DelayLineStore> maker = () -> {
            DelayLineStore x = busyComputer();
            for (int cycle = 0; cycle < 32; cycle++) {
                x.writeWord(6, cycle, 1);
            }
            return x;
        };
        refused("moveNext into a full tank", maker, STATE, x -> x.moveNext(0, 0, 6));
    }

    /** "Throws IllegalStateException .. if the next fields are the location itself". */
    @Test
    static void promise43ItsOwnNext() {
        Supplier<DelayLineStore> maker = () -> {
            DelayLineStore x = busyComputer();
            x.writeWord(7, 31, Texts.word(0, 0, 0, 7, 31));
            return x;
        };
        refused("moveNext of its own next", maker, STATE, x -> x.moveNext(7, 31, 6));
        refused("moveNext of its own next in its tank", maker, STATE, x -> x.moveNext(7, 31, 7));
        refused("moveNext of an empty 0.0", () -> {
            DelayLineStore x = busyComputer();
            x.writeWord(0, 0, 0);
            return x;
        }, STATE, x -> x.moveNext(0, 0, 0));
    }

    /** A refused format leaves the formatted text. */
    @Test
    static void promise44NoLocation() {
        refusedLocations("format", (x, tank, cycle) -> x.format(tank, cycle));
    }

    @Test
    static void promise45NoByte() {
        DelayLineStore formatted = busyComputer();
        int length = formatted.format(1, 3);
        int[] indexes = {-1, length, length + 1, MIN, MAX};
        refusedNumbers("formattedByte", BOUNDS, indexes, (x, index) -> x.formattedByte(index));
        DelayLineStore x = new DelayLineStore();
        Check.outOfBounds("formattedByte(0) of the empty text", () -> x.formattedByte(0));
    }

    // ---- promises 46 and 47

    @Test
    static void promise46NoSlot() {
        refusedNumbers("save", BOUNDS, new int[] {-1, 2, MIN, MAX}, (x, slot) -> x.save(slot));
    }

    @Test
    static void promise47NoSlot() {
        refusedNumbers("restore", BOUNDS, new int[] {-1, 2, MIN, MAX}, (x, slot) -> x.restore(slot));
    }

    /** "Throws IllegalStateException if nothing was saved in the slot": whatever was saved in the other one. */
    @Test
    static void promise47NothingSaved() {
        for (int slot = 0; slot < 2; slot++) {
            int empty = slot;
            refused("restore(" + slot + ") without any save", DelayLineStore::new, STATE, x -> x.restore(empty));
            Supplier<DelayLineStore> maker = () -> {
                DelayLineStore x = new DelayLineStore();
                x.writeWord(1, 1, 5);
                x.save(1 - empty);
                x.writeWord(1, 1, 6);
                return x;
            };
            refused("restore(" + slot + ") after the other's save", maker, STATE, x -> x.restore(empty));
        }
    }

    // ---- several exceptions

    /** "If several exceptions apply to a call, the one that is named first in its throws clause is thrown." */
    @Test
    static void theExceptionThatIsNamedFirst() {
        refused("writeWord(8, 0, 524288)", BOUNDS, x -> x.writeWord(8, 0, 524288));
        refused("writeWord(0, 32, -524289)", BOUNDS, x -> x.writeWord(0, 32, -524289));
        refused("setTemperature(8, 1001)", BOUNDS, x -> x.setTemperature(8, 1001));
        refused("setTemperature(-1, -1)", BOUNDS, x -> x.setTemperature(-1, -1));
        refused("run(0), stopped", RefusalTests::stoppedComputer, ARGUMENT, x -> x.run(0));
        refused("run(501), without input", RefusalTests::computerWaitingForInput, ARGUMENT, x -> x.run(501));
        refused("offerInput(524288), full", RefusalTests::fullComputer, ARGUMENT, x -> x.offerInput(524288));
        refused("predictTime(0), stopped", RefusalTests::stoppedComputer, ARGUMENT, x -> x.predictTime(0));
        refused("predictTime(501), new", DelayLineStore::new, ARGUMENT, x -> x.predictTime(501));
        refused("pathTime(8, 0, 0)", BOUNDS, x -> x.pathTime(8, 0, 0));
        refused("pathTime(0, 32, 201)", BOUNDS, x -> x.pathTime(0, 32, 201));
        refused("moveNext(0, 0, 8) of its own next", DelayLineStore::new, BOUNDS, x -> x.moveNext(0, 0, 8));
        refused("restore(2), nothing saved", DelayLineStore::new, BOUNDS, x -> x.restore(2));
        refused("restore(-1), nothing saved", DelayLineStore::new, BOUNDS, x -> x.restore(-1));
    }
}

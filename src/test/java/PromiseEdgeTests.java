/**
 * The edges that the promises name, promise by promise, as far as nothing is refused there (for that
 * see RefusalTests). Above each test stands the sentence that it holds the class to.
 */
final class PromiseEdgeTests {
    private PromiseEdgeTests() {
    }

    private static void fillTank(DelayLineStore x, int tank, int word) {
        for (int cycle = 0; cycle < 32; cycle++) {
            x.writeWord(tank, cycle, word);
        }
    }

    // ---- promises 2 to 6: the text buffer

    /** "The four bytes of each argument in order, the most significant byte first": each of the 20 in its place. */
    @Test
    static void promise02EachByteInItsPlace() {
        for (int at = 0; at < 20; at++) {
            int[] quad = {0x20202020, 0x20202020, 0x20202020, 0x20202020, 0x20202020};
            quad[at / 4] ^= 0xDF << 24 - 8 * (at % 4);
            DelayLineStore x = new DelayLineStore();
            Check.due("append", x.append(quad[0], quad[1], quad[2], quad[3], quad[4]), 20);
            Check.badArgument("assemble()", () -> x.assemble());
            Check.due("errorPosition() of byte 255", x.errorPosition(), at);
        }
    }

    /** "Returns the new length of the buffer": from 20 to 600. */
    @Test
    static void promise02TheFirstAndTheLastLength() {
        DelayLineStore x = new DelayLineStore();
        Check.due("append to an empty buffer", x.append(0, 0, 0, 0, 0), 20);
        Texts.put(x, " ".repeat(560));
        Check.due("append to 580 bytes", x.append(0, 0, 0, 0, 0), 600);
    }

    /** "Truncates the text buffer": to 0 and to the length that it has, also when that is 0. */
    @Test
    static void promise03ToTheEnds() {
        DelayLineStore x = new DelayLineStore();
        Check.due("truncate(0) of an empty buffer", x.truncate(0), 0);
        x.append(0x696E3B20, 0x20202020, 0x20202020, 0x20202020, 0x20202020);
        Check.due("truncate(20) of 20 bytes", x.truncate(20), 20);
        Check.due("truncate(3) of 20 bytes", x.truncate(3), 3);
        Check.due("assemble()", x.assemble(), 1);
        Texts.put(x, "??");
        Check.due("truncate(0) of 2 bytes", x.truncate(0), 0);
        Check.due("assemble() of nothing", x.assemble(), 0);
    }

    /** What was cut off does not come back with the next append. */
    @Test
    static void promise03WhatIsCutOffIsGone() {
        DelayLineStore x = new DelayLineStore();
        Texts.put(x, "word 123456;");
        x.truncate(6);
        Check.due("append behind 6 bytes", x.append(0x3B202020, 0x20202020, 0x20202020, 0x20202020, 0x20202020), 26);
        Check.due("assemble()", x.assemble(), 1);
        Check.due("readWord(0, 0)", x.readWord(0, 0), 1);
    }

    /** "Locations that the text does not write keep their words": beside one that it does. */
    @Test
    static void promise04OtherLocationsKeepTheirWords() {
        DelayLineStore x = new DelayLineStore();
        fillTank(x, 3, -1);
        Check.due("assemble()", Texts.assemble(x, "at 3.31; word 0;"), 1);
        Check.due("readWord(3, 31)", x.readWord(3, 31), 0);
        Check.due("bitCount(3)", x.bitCount(3), 620);
    }

    /** "No time passes": nor is anything counted. */
    @Test
    static void promise04NoTimePasses() {
        DelayLineStore x = new DelayLineStore();
        x.idle(31);
        Texts.assemble(x, "start 0.0; stop;");
        Check.due("time()", x.time(), 31);
        Check.due("waited()", x.waited(), 0);
        Check.due("executed()", x.executed(), 0);
    }

    /** "The buffer is empty afterwards in every case": it takes 600 bytes again. */
    @Test
    static void promise04TheBufferIsEmptyAfterwards() {
        DelayLineStore x = new DelayLineStore();
        Texts.put(x, " ".repeat(600));
        Check.due("assemble()", x.assemble(), 0);
        Check.outOfBounds("truncate(1)", () -> x.truncate(1));
        Texts.put(x, "in;" + " ".repeat(597));
        Check.due("assemble()", x.assemble(), 1);
    }

    /** "Returns 1 to 3; 0 if there was no error or no call yet", and the position, "NONE if there was no error". */
    @Test
    static void promises05And06NoErrorOrNoCallYet() {
        DelayLineStore x = new DelayLineStore();
        Check.due("errorCode() before any call", x.errorCode(), 0);
        Check.due("errorPosition() before any call", x.errorPosition(), DelayLineStore.NONE);
        Texts.put(x, "?");
        Check.due("errorCode() before assemble()", x.errorCode(), 0);
        Check.badArgument("assemble()", () -> x.assemble());
        Check.due("errorCode() of an error", x.errorCode(), 1);
        Check.due("errorPosition() of an error at the first byte", x.errorPosition(), 0);
        Check.due("assemble() of nothing", x.assemble(), 0);
        Check.due("errorCode() of no error", x.errorCode(), 0);
        Check.due("errorPosition() of no error", x.errorPosition(), DelayLineStore.NONE);
    }

    // ---- promises 7 to 13: the store

    /** "Returns the word of a location as it is in the tank now": after a slip. No time passes. */
    @Test
    static void promise07TheWordOfNow() {
        DelayLineStore x = new DelayLineStore();
        x.setTemperature(0, 452);
        x.writeWord(0, 0, 262144);
        x.idle(32);
        Check.due("readWord(0, 0): bit 18 is the sign now", x.readWord(0, 0), -524288);
        Check.due("time()", x.time(), 32);
    }

    /** "Returns the previous word": the least one after the greatest, and that of now after a slip. */
    @Test
    static void promise08ThePreviousWord() {
        DelayLineStore x = new DelayLineStore();
        Check.due("writeWord of the first word", x.writeWord(0, 31, 524287), 0);
        Check.due("writeWord of the least word", x.writeWord(0, 31, -524288), 524287);
        x.setTemperature(0, 348);
        x.idle(32);
        Check.due("writeWord after a slip", x.writeWord(0, 31, 0), 262144);
    }

    /** "Returns how many bits were 1": none, one and all, and those of other tanks stay. */
    @Test
    static void promise09NoneOneAndAll() {
        DelayLineStore x = new DelayLineStore();
        Check.due("clearTank(0) of an empty one", x.clearTank(0), 0);
        x.writeWord(0, 31, -524288);
        Check.due("clearTank(0) of one bit", x.clearTank(0), 1);
        fillTank(x, 0, -1);
        fillTank(x, 1, -1);
        Check.due("clearTank(0) of a full one", x.clearTank(0), 640);
        Check.due("bitCount(0)", x.bitCount(0), 0);
        Check.due("bitCount(1)", x.bitCount(1), 640);
    }

    /** "Second: 0 to 7, which may be the same one": nothing changes. */
    @Test
    static void promise10TheSameTank() {
        DelayLineStore x = new DelayLineStore();
        x.setTemperature(7, 452);
        x.writeWord(7, 31, 9);
        x.idle(32);
        x.swapTanks(7, 7);
        Check.due("readWord(7, 31)", x.readWord(7, 31), 18);
        Check.due("temperature(7)", x.temperature(7), 446);
        Check.due("slips(7)", x.slips(7), 1);
    }

    /** "Exchanges two tanks with their bits, temperatures and slip counts": the first and the last, and back. */
    @Test
    static void promise10TheFirstAndTheLastTank() {
        DelayLineStore x = new DelayLineStore();
        x.setTemperature(0, 452);
        x.writeWord(0, 31, 9);
        x.writeWord(7, 0, 5);
        x.idle(32);
        x.swapTanks(0, 7);
        Check.due("readWord(7, 31)", x.readWord(7, 31), 18);
        Check.due("readWord(0, 0)", x.readWord(0, 0), 5);
        Check.due("temperature(7)", x.temperature(7), 446);
        Check.due("temperature(0)", x.temperature(0), 400);
        Check.due("slips(7)", x.slips(7), 1);
        Check.due("slips(0)", x.slips(0), 0);
        x.swapTanks(0, 7);
        Check.due("readWord(0, 31) again", x.readWord(0, 31), 18);
        Check.due("slips(0) again", x.slips(0), 1);
    }

    /** "The counts of executed instructions stay with the locations", as does the current location. */
    @Test
    static void promise10TheCountsStay() {
        DelayLineStore x = Texts.computerWith("start 1.0; at 1.0; jzero 1.1; at 2.1; stop;");
        x.run(1);
        x.swapTanks(1, 2);
        Check.due("executedAt(1, 0)", x.executedAt(1, 0), 1);
        Check.due("executedAt(2, 0)", x.executedAt(2, 0), 0);
        Check.due("location()", x.location(), 33);
        Check.due("run(1) of the stop that came there", x.run(1), 1);
        Check.due("state()", x.state(), 1);
    }

    /** "Returns the number, 0 to 640." */
    @Test
    static void promise11From0To640() {
        DelayLineStore x = new DelayLineStore();
        Check.due("bitCount(7) of an empty tank", x.bitCount(7), 0);
        fillTank(x, 7, -1);
        Check.due("bitCount(7) of a full tank", x.bitCount(7), 640);
        x.writeWord(7, 31, 524287);
        Check.due("bitCount(7) without the last bit", x.bitCount(7), 639);
    }

    /** The slip count is that of a tank; clearing and new settings do not change it. */
    @Test
    static void promise12TheCountStays() {
        DelayLineStore x = new DelayLineStore();
        Check.due("slips(7) at first", x.slips(7), 0);
        x.setFixedPeriod(900000);
        x.idle(32);
        x.clearTank(7);
        x.setFixedPeriod(1000000);
        x.idle(32);
        for (int tank = 0; tank < 8; tank++) {
            Check.due("slips(" + tank + ")", x.slips(tank), 71);
        }
    }

    /** The dropout count is one for all tanks; clearing does not change it. */
    @Test
    static void promise13OneCountForAllTanks() {
        DelayLineStore x = new DelayLineStore();
        Check.due("dropouts() at first", x.dropouts(), 0);
        for (int tank = 0; tank < 8; tank++) {
            x.setTemperature(tank, 414);
            x.writeWord(tank, 0, -1);
        }
        x.idle(32);
        Check.due("dropouts() of 8 tanks", x.dropouts(), 8);
        for (int tank = 0; tank < 8; tank++) {
            Check.due("clearTank", x.clearTank(tank), 19);
        }
        Check.due("dropouts() of cleared tanks", x.dropouts(), 8);
    }

    // ---- promises 14 to 24: clock and temperature

    /** "Temperature: 0 to 1000": of the first and the last tank. */
    @Test
    static void promises14And15TheEndsOfTheRange() {
        DelayLineStore x = new DelayLineStore();
        Check.due("setTemperature(0, 0)", x.setTemperature(0, 0), 400);
        Check.due("setTemperature(0, 1000)", x.setTemperature(0, 1000), 0);
        Check.due("temperature(0)", x.temperature(0), 1000);
        Check.due("setTemperature(7, 1000)", x.setTemperature(7, 1000), 400);
        Check.due("setTemperature(7, 0)", x.setTemperature(7, 0), 1000);
        Check.due("temperature(7)", x.temperature(7), 0);
    }

    /** "Returns the previous oven temperature": 0 and 1000; the tanks follow with the next end only. */
    @Test
    static void promise16TheEndsOfTheRange() {
        DelayLineStore x = new DelayLineStore();
        Check.due("setOven(1000)", x.setOven(1000), 400);
        x.idle(31);
        Check.due("temperature(0) before the end", x.temperature(0), 400);
        x.idle(1);
        Check.due("temperature(0) after it", x.temperature(0), 475);
        Check.due("setOven(0)", x.setOven(0), 1000);
        Check.due("setOven(0) again", x.setOven(0), 0);
    }

    /** "Returns the previous temperature of the pilot tank": 0 and 1000. */
    @Test
    static void promise17TheEndsOfTheRange() {
        DelayLineStore x = new DelayLineStore();
        Check.due("setPilotTemperature(0)", x.setPilotTemperature(0), 400);
        Check.due("setPilotTemperature(1000)", x.setPilotTemperature(1000), 0);
        Check.due("setPilotTemperature(1000) again", x.setPilotTemperature(1000), 1000);
    }

    /** "Returns whether it was on before": also if it does not change. */
    @Test
    static void promise18OnAndOffTwice() {
        DelayLineStore x = new DelayLineStore();
        Check.due("setPilot(false)", x.setPilot(false), false);
        Check.due("setPilot(true)", x.setPilot(true), false);
        Check.due("setPilot(true) again", x.setPilot(true), true);
        Check.due("setPilot(false)", x.setPilot(false), true);
        Check.due("setPilot(false) again", x.setPilot(false), false);
    }

    /** "Period: 900000 to 1100000 picoseconds." */
    @Test
    static void promise19TheEndsOfTheRange() {
        DelayLineStore x = new DelayLineStore();
        Check.due("setFixedPeriod(900000)", x.setFixedPeriod(900000), 1000000);
        Check.due("period()", x.period(), 900000);
        Check.due("setFixedPeriod(1100000)", x.setFixedPeriod(1100000), 900000);
        Check.due("period()", x.period(), 1100000);
    }

    /** The fixed period may be set while the pilot is on; it counts when the pilot is off again. */
    @Test
    static void promises19And20WhileThePilotIsOn() {
        DelayLineStore x = new DelayLineStore();
        x.setPilot(true);
        Check.due("setFixedPeriod(900000)", x.setFixedPeriod(900000), 1000000);
        Check.due("period() with the pilot", x.period(), 1000000);
        x.setPilotTemperature(401);
        Check.due("period() of 401", x.period(), 1000030);
        x.setPilot(false);
        Check.due("period() without the pilot", x.period(), 900000);
    }

    /** "Returns the mismatch in picoseconds": the greatest and the least of all. */
    @Test
    static void promise21TheGreatestAndTheLeast() {
        DelayLineStore x = new DelayLineStore();
        x.setTemperature(0, 1000);
        x.setTemperature(7, 0);
        x.setFixedPeriod(900000);
        Check.due("mismatch(0)", x.mismatch(0), 75520000);
        x.setFixedPeriod(1100000);
        Check.due("mismatch(7)", x.mismatch(7), -71680000);
    }

    /** "Returns the temperature, 0 to 1000; NONE if there is none": the last period with one, at both ends. */
    @Test
    static void promises22And23TheLastPeriodsWithASafeTemperature() {
        DelayLineStore x = new DelayLineStore();
        // At 1000 the mismatch is -254080 with 1018397, where the quarter is 254599, and 640 less with the next.
        x.setFixedPeriod(1018397);
        Check.due("leastSafeTemperature() of 1018397", x.leastSafeTemperature(), 1000);
        Check.due("greatestSafeTemperature() of 1018397", x.greatestSafeTemperature(), 1000);
        x.setFixedPeriod(1018398);
        Check.due("leastSafeTemperature() of 1018398", x.leastSafeTemperature(), DelayLineStore.NONE);
        Check.due("greatestSafeTemperature() of 1018398", x.greatestSafeTemperature(), DelayLineStore.NONE);
        // At 0 the mismatch is 246400 with 987615, where the quarter is 246903, and 640 more with the one before.
        x.setFixedPeriod(987615);
        Check.due("leastSafeTemperature() of 987615", x.leastSafeTemperature(), 0);
        Check.due("greatestSafeTemperature() of 987615", x.greatestSafeTemperature(), 0);
        x.setFixedPeriod(987614);
        Check.due("leastSafeTemperature() of 987614", x.leastSafeTemperature(), DelayLineStore.NONE);
        Check.due("greatestSafeTemperature() of 987614", x.greatestSafeTemperature(), DelayLineStore.NONE);
    }

    /** "With the present clock period": of a pilot tank at both ends, and 26 or 27 temperatures wide. */
    @Test
    static void promises22And23WithAPilot() {
        DelayLineStore x = new DelayLineStore();
        x.setPilot(true);
        x.setPilotTemperature(0);
        Check.due("leastSafeTemperature() of 0", x.leastSafeTemperature(), 0);
        Check.due("greatestSafeTemperature() of 0", x.greatestSafeTemperature(), 12);
        x.setPilotTemperature(13);
        Check.due("leastSafeTemperature() of 13", x.leastSafeTemperature(), 1);
        x.setPilotTemperature(400);
        Check.due("leastSafeTemperature() of 400", x.leastSafeTemperature(), 387);
        Check.due("greatestSafeTemperature() of 400", x.greatestSafeTemperature(), 413);
        x.setPilotTemperature(1000);
        Check.due("leastSafeTemperature() of 1000", x.leastSafeTemperature(), 987);
        Check.due("greatestSafeTemperature() of 1000", x.greatestSafeTemperature(), 1000);
    }

    /** "Returns the number, 0 if some tank is not safe now": the first or the last one alone. */
    @Test
    static void promise24SomeTankIsNotSafeNow() {
        DelayLineStore x = new DelayLineStore();
        x.setTemperature(0, 414);
        Check.due("unsafeAfter() of tank 0 at 414", x.unsafeAfter(), 0);
        x.setTemperature(0, 413);
        x.setTemperature(7, 386);
        Check.due("unsafeAfter() of tank 7 at 386", x.unsafeAfter(), 0);
        x.setTemperature(7, 387);
        Check.due("unsafeAfter() of tanks at both limits", x.unsafeAfter(), DelayLineStore.NONE);
    }

    /** "(The safety after an end is that with the temperatures that it has brought about.)" */
    @Test
    static void promise24TheTemperaturesThatAnEndBrings() {
        DelayLineStore x = new DelayLineStore();
        x.setOven(511);
        // (511 - 400) / 8 is 13, so that 413 comes with the first end and 425 with the second.
        Check.due("unsafeAfter() in an oven of 511", x.unsafeAfter(), 2);
        x.setOven(512);
        // (512 - 400) / 8 is 14.
        Check.due("unsafeAfter() in an oven of 512", x.unsafeAfter(), 1);
    }

    /** The oven that just does not do it, and the least one that does, after 15 ends of the slowest kind. */
    @Test
    static void promise24TheSlowestOven() {
        DelayLineStore x = new DelayLineStore();
        for (int tank = 0; tank < 8; tank++) {
            x.setTemperature(tank, 387);
        }
        x.setOven(420);
        Check.due("unsafeAfter() in an oven of 420", x.unsafeAfter(), DelayLineStore.NONE);
        x.setOven(421);
        Check.due("unsafeAfter() in an oven of 421", x.unsafeAfter(), 15);
        x.idle(14 * 32);
        Check.due("unsafeAfter() 14 ends later", x.unsafeAfter(), 1);
        x.idle(32);
        Check.due("unsafeAfter() 15 ends later", x.unsafeAfter(), 0);
    }

    /** "If the settings stay as they are": the pilot stays on, and its tank drifts along. */
    @Test
    static void promise24ThePilotTankDriftsToo() {
        DelayLineStore x = new DelayLineStore();
        x.setPilot(true);
        x.setOven(1000);
        Check.due("unsafeAfter() with all drifting alike", x.unsafeAfter(), DelayLineStore.NONE);
        x.setPilot(false);
        Check.due("unsafeAfter() with a fixed period", x.unsafeAfter(), 1);
        x.setOven(400);
        x.setPilot(true);
        x.setPilotTemperature(413);
        Check.due("unsafeAfter() of a pilot tank at the limit", x.unsafeAfter(), DelayLineStore.NONE);
        x.setPilotTemperature(414);
        Check.due("unsafeAfter() of a pilot tank past it", x.unsafeAfter(), 0);
    }

    /** "Predicts": nothing changes by it, and no bit is lost. */
    @Test
    static void promise24NothingChanges() {
        DelayLineStore x = new DelayLineStore();
        x.setOven(430);
        fillTank(x, 0, -1);
        Check.due("unsafeAfter()", x.unsafeAfter(), 6);
        Check.due("unsafeAfter() again", x.unsafeAfter(), 6);
        Check.due("time()", x.time(), 0);
        Check.due("temperature(0)", x.temperature(0), 400);
        Check.due("bitCount(0)", x.bitCount(0), 640);
        Check.due("setPilotTemperature(400)", x.setPilotTemperature(400), 400);
    }

    // ---- promises 25 to 39: running

    /** "Makes the computer ready at a location": 0.0 and 7.31, from any state. */
    @Test
    static void promise25FromAnyState() {
        DelayLineStore x = new DelayLineStore();
        x.start(7, 31);
        Check.due("state() after stopped", x.state(), 0);
        Check.due("location()", x.location(), 255);
        x.start(0, 0);
        Check.due("state() after ready", x.state(), 0);
        Check.due("location()", x.location(), 0);
        x.writeWord(0, 0, 13);
        x.run(1);
        x.start(7, 31);
        Check.due("state() after waiting for input", x.state(), 0);
        x.writeWord(0, 0, 14);
        x.start(0, 0);
        x.run(65);
        Check.due("state() of a full output", x.state(), 3);
        x.start(0, 1);
        Check.due("state() after waiting for output", x.state(), 0);
        Check.due("location()", x.location(), 1);
        Check.due("outputLength()", x.outputLength(), 64);
    }

    /** "Count: 1 to 500": both, and the number is not passed. */
    @Test
    static void promise26From1To500() {
        DelayLineStore x = Texts.computerWith("start 0.0; jzero 0.0;");
        Check.due("run(1)", x.run(1), 1);
        Check.due("executed()", x.executed(), 1);
        Check.due("run(500)", x.run(500), 500);
        Check.due("executed()", x.executed(), 501);
        Check.due("state()", x.state(), 0);
    }

    /** "Until the computer is not ready any more or a number of instructions has been executed": both at once. */
    @Test
    static void promise26TheLastOneStops() {
        DelayLineStore x = Texts.computerWith("start 0.0; jzero 0.1; stop then 0.0;");
        Check.due("run(2)", x.run(2), 2);
        Check.due("state()", x.state(), 1);
        x.start(0, 0);
        Check.due("run(1)", x.run(1), 1);
        Check.due("state()", x.state(), 0);
        Check.due("run(500)", x.run(500), 1);
        Check.due("state()", x.state(), 1);
    }

    /** "Returns how many instructions were executed": none if the first one waits. */
    @Test
    static void promise26NoneIsExecuted() {
        DelayLineStore x = Texts.computerWith("start 0.0; in;");
        Check.due("run(500)", x.run(500), 0);
        x.offerInput(1);
        Check.due("run(1)", x.run(1), 1);
        Check.due("executed()", x.executed(), 1);
    }

    /** "Count: 1 to 3200." */
    @Test
    static void promise27From1To3200() {
        DelayLineStore x = new DelayLineStore();
        Check.due("idle(1)", x.idle(1), 1);
        Check.due("idle(3200)", x.idle(3200), 3201);
        Check.due("idle(31)", x.idle(31), 3232);
    }

    /** "Lets minor cycles pass without executing instructions": in every state, which stays. */
    @Test
    static void promise27InEveryState() {
        DelayLineStore x = Texts.computerWith("start 0.0; out then 0.0;");
        x.idle(64);
        Check.due("state() ready", x.state(), 0);
        Check.due("executed()", x.executed(), 0);
        Check.due("outputLength()", x.outputLength(), 0);
        x.run(65);
        x.idle(64);
        Check.due("state() waiting for output", x.state(), 3);
        Check.due("executed()", x.executed(), 64);
        x.writeWord(0, 0, 13);
        x.start(0, 0);
        x.run(1);
        x.idle(64);
        Check.due("state() waiting for input", x.state(), 2);
    }

    /** "Returns 32 * tank + cycle": 0, 31, 224 and 255. */
    @Test
    static void promise32TheCorners() {
        DelayLineStore x = new DelayLineStore();
        int[][] corners = {{0, 0, 0}, {0, 31, 31}, {7, 0, 224}, {7, 31, 255}, {1, 0, 32}};
        for (int[] corner : corners) {
            x.start(corner[0], corner[1]);
            Check.due("location() of " + corner[0] + "." + corner[1], x.location(), corner[2]);
        }
    }

    /** "Returns the new length of the input queue": 1 to 64, and 64 again when one was taken. */
    @Test
    static void promise33From1To64() {
        DelayLineStore x = Texts.computerWith("start 0.0; in then 0.0;");
        for (int i = 1; i <= 64; i++) {
            Check.due("offerInput " + i, x.offerInput(i), i);
        }
        x.run(1);
        Check.due("offerInput of the 65th", x.offerInput(65), 64);
        Check.badState("offerInput of the 66th", () -> x.offerInput(66));
        for (int i = 2; i <= 65; i++) {
            x.run(1);
            Check.due("number " + i, x.accumulator(), i);
        }
        Check.due("run(1) of the empty queue", x.run(1), 0);
    }

    /** "If the computer is waiting for input, it becomes ready": in no other state. */
    @Test
    static void promise33OnlyAComputerThatWaitsForInput() {
        DelayLineStore x = new DelayLineStore();
        x.offerInput(1);
        Check.due("state() stopped", x.state(), 1);
        x.writeWord(0, 0, 14);
        x.start(0, 0);
        x.offerInput(2);
        Check.due("state() ready", x.state(), 0);
        x.run(65);
        x.offerInput(3);
        Check.due("state() waiting for output", x.state(), 3);
        x.writeWord(0, 0, 13);
        x.start(0, 0);
        x.run(4);
        Check.due("state() waiting for input", x.state(), 2);
        x.offerInput(4);
        Check.due("state() with an input", x.state(), 0);
    }

    /** "If the computer is waiting for output, it becomes ready": in no other state. */
    @Test
    static void promise34OnlyAComputerThatWaitsForOutput() {
        DelayLineStore x = Texts.computerWith("start 0.0; out then 0.0;");
        x.run(65);
        Check.due("state() waiting for output", x.state(), 3);
        x.takeOutput();
        Check.due("state() with room", x.state(), 0);
        x.takeOutput();
        Check.due("state() ready", x.state(), 0);
        x.writeWord(0, 0, 13);
        x.run(1);
        x.takeOutput();
        Check.due("state() waiting for input", x.state(), 2);
        x.writeWord(0, 0, 0);
        x.start(0, 0);
        x.run(1);
        x.takeOutput();
        Check.due("state() stopped", x.state(), 1);
    }

    /** "Removes the first number": in the order in which they were put out, round the end of the queue. */
    @Test
    static void promises34And35TheOrder() {
        DelayLineStore x = Texts.computerWith("start 0.0; count 1.0; out then 0.0; at 1.0; word 0;");
        Check.due("outputLength() at first", x.outputLength(), 0);
        x.run(120);
        for (int i = 1; i <= 50; i++) {
            Check.due("takeOutput()", x.takeOutput(), -i);
        }
        x.run(108);
        Check.due("outputLength() of a full queue", x.outputLength(), 64);
        for (int i = 51; i <= 114; i++) {
            Check.due("takeOutput()", x.takeOutput(), -i);
        }
        Check.due("outputLength() of an empty queue", x.outputLength(), 0);
    }

    /** "Predicts .. how many minor cycles run(count) would take": of 1 and of 500, from any time. */
    @Test
    static void promise39From1To500() {
        DelayLineStore x = Texts.computerWith("start 0.0; jzero 0.0;");
        Check.due("predictTime(1)", x.predictTime(1), 2);
        Check.due("predictTime(500)", x.predictTime(500), 499 * 32 + 2);
        x.idle(5);
        Check.due("predictTime(1) at 5", x.predictTime(1), 29);
        Check.due("predictTime(500) at 5", x.predictTime(500), 27 + 499 * 32 + 2);
        Check.due("time()", x.time(), 5);
    }

    /** "On a copy of everything": slips and lost bits count in the prediction and leave the store. */
    @Test
    static void promise39WithSlips() {
        DelayLineStore x = new DelayLineStore();
        x.setTemperature(0, 452);
        x.writeWord(0, 0, Texts.word(10, 0, 0, 0, 1));
        x.writeWord(0, 1, Texts.word(11, 0, 3, 0, 3));
        x.writeWord(0, 3, Texts.word(7, 1, 0, 0, 5));
        x.start(0, 0);
        int bits = x.bitCount(0);
        int predicted = x.predictTime(20);
        Check.due("slips(0) after the prediction", x.slips(0), 0);
        Check.due("bitCount(0) after the prediction", x.bitCount(0), bits);
        x.run(20);
        Check.due("predictTime(20)", predicted, x.time());
        Check.due("slips(0) after the run", x.slips(0) > 0, true);
    }

    /** "How many minor cycles run(count) would take": those of an instruction that waits for a queue too. */
    @Test
    static void promise39OfAComputerThatWillWait() {
        DelayLineStore x = Texts.computerWith("start 0.0; in then 0.0;");
        Check.due("predictTime(500) without input", x.predictTime(500), 1);
        x.offerInput(1);
        Check.due("predictTime(1) with an input", x.predictTime(1), 2);
        Check.due("predictTime(2) with an input", x.predictTime(2), 33);
        Check.due("predictTime(500) with an input", x.predictTime(500), 33);
        Check.due("state()", x.state(), 0);
        Check.due("offerInput(2): the number is still there", x.offerInput(2), 2);
    }

    // ---- promises 40 to 43: timing analysis

    /** "The time after its execution, modulo 32": round the end of the major cycle. */
    @Test
    static void promise40ModuloRound() {
        DelayLineStore x = Texts.computerWith("at 7.31; stop; at 7.30; in; at 6.31; load 0.31; at 5.31; load 0.0;"
                + " at 4.31; shl 31; at 3.31; count 0.31; at 2.31; mul 0.0;");
        Check.due("stop at 31", x.idealNextCycle(7, 31), 0);
        Check.due("in at 30", x.idealNextCycle(7, 30), 0);
        Check.due("load 0.31 at 31", x.idealNextCycle(6, 31), 0);
        Check.due("load 0.0 at 31", x.idealNextCycle(5, 31), 1);
        Check.due("shl 31 at 31", x.idealNextCycle(4, 31), 0);
        Check.due("count 0.31 at 31", x.idealNextCycle(3, 31), 0);
        Check.due("mul 0.0 at 31", x.idealNextCycle(2, 31), 21);
    }

    /** "Where in and out are assumed to be possible": with an empty and with a full queue. */
    @Test
    static void promises40And41InAndOutArePossible() {
        DelayLineStore x = Texts.computerWith("start 0.0; out then 0.0; at 1.4; in; out; stop;");
        x.run(64);
        Check.due("idealNextCycle of an in", x.idealNextCycle(1, 4), 6);
        Check.due("idealNextCycle of an out", x.idealNextCycle(1, 5), 7);
        Check.due("pathTime of in, out and stop", x.pathTime(1, 4, 3), 2 + 31 + 2 + 31 + 1);
    }

    /** "If the instruction of a location is read in its cycle": whatever the time is. */
    @Test
    static void promises40To42AtAnyTime() {
        DelayLineStore x = Texts.computerWith("at 1.4; load 2.4; stop;");
        for (int i = 0; i < 40; i++) {
            Check.due("idealNextCycle(1, 4)", x.idealNextCycle(1, 4), 5);
            Check.due("pathTime(1, 4, 2)", x.pathTime(1, 4, 2), 34);
            Check.due("bestFreeCycle(1, 4, 3)", x.bestFreeCycle(1, 4, 3), 5);
            x.idle(7);
        }
    }

    /** "The words of locations as they are now, without slips": a tank that slips all the time. */
    @Test
    static void promises40And41WithoutSlips() {
        DelayLineStore x = Texts.computerWith("at 1.4; count 1.4 then 1.4;");
        x.setFixedPeriod(900000);
        Check.due("idealNextCycle(1, 4)", x.idealNextCycle(1, 4), 5);
        Check.due("pathTime(1, 4, 200)", x.pathTime(1, 4, 200), 199 * 96 + 65);
        Check.due("slips(1)", x.slips(1), 0);
        Check.due("time()", x.time(), 0);
    }

    /** "Count: 1 to 200": the first alone has no waiting for itself. */
    @Test
    static void promise41From1To200() {
        DelayLineStore x = Texts.computerWith("at 3.31; jzero 0.0 then 3.31;");
        Check.due("pathTime(3, 31, 1)", x.pathTime(3, 31, 1), 2);
        Check.due("pathTime(3, 31, 2)", x.pathTime(3, 31, 2), 34);
        Check.due("pathTime(3, 31, 200)", x.pathTime(3, 31, 200), 199 * 32 + 2);
    }

    /** The longest path: a count of its own cycle takes 96 with the waiting for itself. */
    @Test
    static void promise41TheLongestPath() {
        DelayLineStore x = Texts.computerWith("at 3.0; count 0.0 then 3.0;");
        Check.due("pathTime(3, 0, 200)", x.pathTime(3, 0, 200), 199 * 96 + 65);
    }

    /** "Ends after a number of instructions or with the first stop": the first, the last, and none behind it. */
    @Test
    static void promise41TheFirstStop() {
        DelayLineStore x = Texts.computerWith("at 3.0; stop; in;");
        Check.due("pathTime(3, 0, 1) of a stop", x.pathTime(3, 0, 1), 1);
        Check.due("pathTime(3, 0, 200) of a stop", x.pathTime(3, 0, 200), 1);
        DelayLineStore y = Texts.computerWith("at 4.0; in then 4.2; at 4.2; in then 4.4; at 4.4; stop; in;");
        Check.due("pathTime(4, 0, 2)", y.pathTime(4, 0, 2), 4);
        Check.due("pathTime(4, 0, 3)", y.pathTime(4, 0, 3), 5);
        Check.due("pathTime(4, 0, 4)", y.pathTime(4, 0, 4), 5);
        Check.due("pathTime(4, 0, 200)", y.pathTime(4, 0, 200), 5);
    }

    /** "In which no jump is taken": not even one that would be. */
    @Test
    static void promise41NoJumpIsTaken() {
        DelayLineStore x = Texts.computerWith("start 0.0; jzero 5.5; jneg 5.5; jover 5.5; stop;");
        Check.due("pathTime(0, 0, 4)", x.pathTime(0, 0, 4), 2 + 31 + 2 + 31 + 2 + 31 + 1);
        Check.due("location()", x.location(), 0);
    }

    /** "The one with the least waiting": none, then 1, then round to the last one with 31. */
    @Test
    static void promise42FromNoWaitingTo31() {
        DelayLineStore x = Texts.computerWith("at 0.9; in;");
        for (int waiting = 0; waiting < 32; waiting++) {
            int due = (11 + waiting) % 32;
            Check.due("bestFreeCycle with " + waiting, x.bestFreeCycle(0, 9, 5), due);
            x.writeWord(5, due, 1);
        }
        Check.due("bestFreeCycle of a full tank", x.bestFreeCycle(0, 9, 5), DelayLineStore.NONE);
    }

    /** "Whose words are 0": a word is free or not by all of its bits. */
    @Test
    static void promise42AnyBitCounts() {
        for (int bit = 0; bit < 20; bit++) {
            DelayLineStore x = Texts.computerWith("at 0.9; in;");
            x.writeWord(5, 11, bit == 19 ? -524288 : 1 << bit);
            Check.due("bestFreeCycle behind bit " + bit, x.bestFreeCycle(0, 9, 5), 12);
        }
    }

    /** "(without the location itself)": an empty location of the target tank, which is a stop. */
    @Test
    static void promise42TheLocationItself() {
        DelayLineStore x = new DelayLineStore();
        fillTank(x, 2, 1);
        x.writeWord(2, 20, 0);
        Check.due("bestFreeCycle(2, 20, 2)", x.bestFreeCycle(2, 20, 2), DelayLineStore.NONE);
        Check.due("bestFreeCycle(3, 20, 2)", x.bestFreeCycle(3, 20, 2), 20);
        x.writeWord(2, 19, 0);
        Check.due("bestFreeCycle(2, 20, 2) with another", x.bestFreeCycle(2, 20, 2), 19);
        Check.due("bestFreeCycle(2, 19, 2)", x.bestFreeCycle(2, 19, 2), 20);
    }

    /** "The word is copied there, its old location becomes 0": from 7.31 to 0.0 and back. */
    @Test
    static void promise43ToTheCorners() {
        DelayLineStore x = Texts.computerWith("at 3.30; in then 7.31; at 7.31; word -524288;");
        Check.due("moveNext(3, 30, 0)", x.moveNext(3, 30, 0), 0);
        Check.due("readWord(0, 0)", x.readWord(0, 0), -524288);
        Check.due("readWord(7, 31)", x.readWord(7, 31), 0);
        Check.due("the text of 3.30", Texts.formatted(x, 3, 30), "in then 0.0");
        for (int cycle = 0; cycle < 31; cycle++) {
            x.writeWord(7, cycle, 1);
        }
        Check.due("moveNext(3, 30, 7)", x.moveNext(3, 30, 7), 31);
        Check.due("readWord(7, 31)", x.readWord(7, 31), -524288);
        Check.due("readWord(0, 0)", x.readWord(0, 0), 0);
        Check.due("the text of 3.30", Texts.formatted(x, 3, 30), "in then 7.31");
    }

    /** A next word that is 0 may move to where it is, or to another free cycle. */
    @Test
    static void promise43AnEmptyNextWord() {
        DelayLineStore x = Texts.computerWith("at 3.4; in then 3.6;");
        Check.due("moveNext(3, 4, 3) to where it is", x.moveNext(3, 4, 3), 6);
        Check.due("the text of 3.4", Texts.formatted(x, 3, 4), "in then 3.6");
        Texts.assemble(x, "at 3.4; in then 3.20;");
        Check.due("moveNext(3, 4, 3) to a better one", x.moveNext(3, 4, 3), 6);
        Check.due("the text of 3.4", Texts.formatted(x, 3, 4), "in then 3.6");
        Check.due("bitCount(3): the instruction alone", x.bitCount(3), 3 + 2 + 2);
    }

    /** A next word in the target tank is in its own way, for it is not 0 before it is moved. */
    @Test
    static void promise43WithinATank() {
        DelayLineStore x = Texts.computerWith("at 3.4; in then 3.6; at 3.6; word 9;");
        Check.due("moveNext(3, 4, 3)", x.moveNext(3, 4, 3), 7);
        Check.due("readWord(3, 7)", x.readWord(3, 7), 9);
        Check.due("readWord(3, 6)", x.readWord(3, 6), 0);
        Check.due("moveNext(3, 4, 3) again", x.moveNext(3, 4, 3), 6);
        Check.due("readWord(3, 6)", x.readWord(3, 6), 9);
    }

    /** A tank whose only word that is not taken is the next word itself is full. */
    @Test
    static void promise43TheNextWordFillsTheTank() {
        DelayLineStore x = Texts.computerWith("at 3.4; in then 5.6;");
        fillTank(x, 5, 1);
        Check.badState("moveNext(3, 4, 5)", () -> x.moveNext(3, 4, 5));
        Check.due("readWord(5, 6)", x.readWord(5, 6), 1);
        Check.due("the text of 3.4", Texts.formatted(x, 3, 4), "in then 5.6");
    }

    /** "Other instructions do not change": neither one that names the old location, nor the operand fields. */
    @Test
    static void promise43OtherInstructionsStay() {
        DelayLineStore x = Texts.computerWith("at 3.4; jneg 5.6 then 5.6; at 3.9; load 5.6 then 5.6; at 5.6; word 9;");
        x.moveNext(3, 4, 1);
        Check.due("the text of 3.4", Texts.formatted(x, 3, 4), "jneg 5.6 then 1.6");
        Check.due("the text of 3.9", Texts.formatted(x, 3, 9), "load 5.6 then 5.6");
    }

    // ---- promises 44 and 45: the disassembler

    /** "In decimal without leading zeros": each cycle of one and of two digits. */
    @Test
    static void promise44EveryCycle() {
        for (int cycle = 0; cycle < 32; cycle++) {
            DelayLineStore x = new DelayLineStore();
            x.writeWord(0, 0, Texts.word(2, 7, cycle, 0, 31 - cycle));
            Check.due("the text", Texts.formatted(x, 0, 0), "store 7." + cycle + " then 0." + (31 - cycle));
        }
    }

    /** "Returns the length of the text": the shortest and the longest one. */
    @Test
    static void promise44TheShortestAndTheLongest() {
        DelayLineStore x = new DelayLineStore();
        x.writeWord(0, 0, 13);
        Check.due("format of an in", x.format(0, 0), "in then 0.0".length());
        x.writeWord(0, 0, -1);
        Check.due("format of -1", x.format(0, 0), "count 7.31 then 7.31".length());
    }

    /** "Operand fields that are not used are not shown": all of them set. */
    @Test
    static void promise44FieldsThatAreNotUsed() {
        DelayLineStore x = new DelayLineStore();
        int[] opcodes = {0, 13, 14, 8, 9};
        String[] due = {"stop", "in", "out", "shl 31", "shr 31"};
        for (int i = 0; i < opcodes.length; i++) {
            x.writeWord(0, 0, Texts.word(opcodes[i], 7, 31, 0, 0));
            Check.due("the text", Texts.formatted(x, 0, 0), due[i] + " then 0.0");
        }
    }

    /** "The text replaces the previous formatted text": a shorter one leaves nothing of a longer one. */
    @Test
    static void promises44And45AShorterText() {
        DelayLineStore x = new DelayLineStore();
        x.writeWord(0, 0, -1);
        x.writeWord(0, 1, 13);
        x.format(0, 0);
        Check.due("formattedByte(19)", x.formattedByte(19), '1');
        Check.due("format(0, 1)", x.format(0, 1), 11);
        Check.due("formattedByte(10)", x.formattedByte(10), '0');
        Check.outOfBounds("formattedByte(11)", () -> x.formattedByte(11));
        Check.due("formattedByte(0)", x.formattedByte(0), 'i');
    }

    // ---- promises 46 and 47: snapshots

    /** "Slot: 0 or 1": each has its own, and a new save replaces the old one. */
    @Test
    static void promise46BothSlots() {
        DelayLineStore x = new DelayLineStore();
        for (int slot = 0; slot < 2; slot++) {
            x.setOven(slot + 1);
            x.save(slot);
        }
        x.restore(0);
        Check.due("the oven of slot 0", x.setOven(9), 1);
        x.save(0);
        x.restore(1);
        Check.due("the oven of slot 1", x.setOven(8), 2);
        x.restore(0);
        Check.due("the oven of slot 0, saved again", x.setOven(7), 9);
    }

    /** "Except .. the snapshots": a snapshot made after the other one is still there when that is restored. */
    @Test
    static void promise47TheOtherSnapshotStays() {
        DelayLineStore x = new DelayLineStore();
        x.save(0);
        x.idle(5);
        x.save(1);
        x.restore(0);
        Check.due("time() of slot 0", x.time(), 0);
        x.restore(1);
        Check.due("time() of slot 1", x.time(), 5);
    }

    /** "The snapshot stays saved": what is done after a restore does not reach it. */
    @Test
    static void promise47TheSnapshotStaysSaved() {
        DelayLineStore x = Texts.computerWith("start 0.0; in; out then 0.0;");
        x.offerInput(7);
        x.save(0);
        for (int i = 0; i < 3; i++) {
            x.restore(0);
            Check.due("run(2)", x.run(2), 2);
            Check.due("takeOutput()", x.takeOutput(), 7);
            Check.due("run(1)", x.run(1), 0);
            x.clearTank(0);
            x.idle(64);
        }
    }

    /** "Saves everything except the text buffer, the error .., the formatted text": these are as they were. */
    @Test
    static void promise47WhatIsNotSaved() {
        DelayLineStore x = new DelayLineStore();
        x.format(0, 0);
        x.save(0);
        Texts.put(x, "shl 99;");
        Check.badArgument("assemble()", () -> x.assemble());
        x.writeWord(0, 0, 13);
        x.format(0, 0);
        Texts.put(x, "word 44;");
        x.restore(0);
        Check.due("errorCode()", x.errorCode(), 2);
        Check.due("errorPosition()", x.errorPosition(), 4);
        Check.due("formattedByte(0)", x.formattedByte(0), 'i');
        Check.due("truncate(8)", x.truncate(8), 8);
        Check.due("assemble()", x.assemble(), 1);
        Check.due("readWord(0, 0)", x.readWord(0, 0), 44);
    }

    /** "Saves everything": time, state, location, accumulator and flag. */
    @Test
    static void promise47WhatTheComputerHolds() {
        DelayLineStore x = Texts.computerWith("start 0.0; load 1.1; add 1.1; in; at 1.1; word 524287;");
        x.run(3);
        x.save(0);
        Texts.assemble(x, "start 5.0; at 5.0; jover 5.1; load 5.9; stop;");
        Check.due("run(3)", x.run(3), 3);
        x.restore(0);
        // The in of 0.2 was read at 66, and found nothing.
        Check.due("time()", x.time(), 67);
        Check.due("state()", x.state(), 2);
        Check.due("location()", x.location(), 2);
        Check.due("accumulator()", x.accumulator(), -2);
        Check.due("hasOverflow()", x.hasOverflow(), true);
        x.offerInput(1);
        Check.due("state() with an input", x.state(), 0);
    }

    /** "Saves everything": what is counted, for the whole, for tanks and for locations. */
    @Test
    static void promise47WhatIsCounted() {
        DelayLineStore x = Texts.computerWith("start 0.0; jzero 0.0;");
        x.setTemperature(7, 466);
        fillTank(x, 7, -1);
        x.run(2);
        x.save(1);
        x.run(5);
        x.setTemperature(7, 466);
        x.idle(32);
        x.start(3, 3);
        x.run(1);
        x.restore(1);
        Check.due("executed()", x.executed(), 2);
        Check.due("executedAt(0, 0)", x.executedAt(0, 0), 2);
        Check.due("executedAt(3, 3)", x.executedAt(3, 3), 0);
        Check.due("waited()", x.waited(), 30);
        Check.due("slips(7)", x.slips(7), 1);
        Check.due("dropouts()", x.dropouts(), 1);
        Check.due("bitCount(7)", x.bitCount(7), 639);
    }

    /** "Saves everything": temperatures and settings. */
    @Test
    static void promise47TemperaturesAndSettings() {
        DelayLineStore x = new DelayLineStore();
        for (int tank = 0; tank < 8; tank++) {
            x.setTemperature(tank, 100 + tank);
        }
        x.setOven(200);
        x.setPilotTemperature(300);
        x.setFixedPeriod(999999);
        x.setPilot(true);
        x.save(0);
        x.swapTanks(0, 7);
        x.setOven(0);
        x.setPilotTemperature(0);
        x.setFixedPeriod(1000001);
        x.setPilot(false);
        x.idle(64);
        x.restore(0);
        for (int tank = 0; tank < 8; tank++) {
            Check.due("temperature(" + tank + ")", x.temperature(tank), 100 + tank);
        }
        Check.due("period()", x.period(), 997000);
        Check.due("setPilot(false)", x.setPilot(false), true);
        Check.due("setFixedPeriod(1000000)", x.setFixedPeriod(1000000), 999999);
        Check.due("setOven(400)", x.setOven(400), 200);
        Check.due("setPilotTemperature(400)", x.setPilotTemperature(400), 300);
    }

    /** "Saves everything": full queues come back full, empty ones empty. */
    @Test
    static void promise47FullAndEmptyQueues() {
        DelayLineStore x = Texts.computerWith("start 0.0; in; out then 0.0;");
        x.save(0);
        for (int i = 1; i <= 64; i++) {
            x.offerInput(i);
        }
        x.run(128);
        for (int i = 101; i <= 164; i++) {
            x.offerInput(i);
        }
        x.save(1);
        x.restore(0);
        Check.due("outputLength() of slot 0", x.outputLength(), 0);
        Check.due("offerInput(9) of slot 0", x.offerInput(9), 1);
        Check.due("run(2)", x.run(2), 2);
        Check.due("takeOutput()", x.takeOutput(), 9);
        x.restore(1);
        Check.badState("offerInput(9) of slot 1", () -> x.offerInput(9));
        Check.due("outputLength() of slot 1", x.outputLength(), 64);
        for (int i = 1; i <= 64; i++) {
            Check.due("takeOutput()", x.takeOutput(), i);
        }
        x.run(2);
        Check.due("accumulator()", x.accumulator(), 101);
    }
}

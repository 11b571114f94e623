/** The store and the snapshots: promises 7 to 13, 46 and 47. */
final class StoreTests {
    private StoreTests() {
    }

    @Test
    static void promises07And08WordsOfAllLocations() {
        DelayLineStore x = new DelayLineStore();
        int made = 0;
        for (int tank = 0; tank < 8; tank++) {
            for (int cycle = 0; cycle < 32; cycle += 5) {
                Check.due("writeWord", x.writeWord(tank, cycle, 1000 * tank - 500 * cycle + 1), 0);
                made++;
            }
        }
        for (int tank = 0; tank < 8; tank++) {
            for (int cycle = 0; cycle < 32; cycle++) {
                int due = cycle % 5 == 0 ? 1000 * tank - 500 * cycle + 1 : 0;
                Check.due("readWord(" + tank + ", " + cycle + ")", x.readWord(tank, cycle), due);
            }
        }
        Check.due("words made", made, 56);
        Check.due("time()", x.time(), 0);
    }

    @Test
    static void promise07OutOfRange() {
        DelayLineStore x = new DelayLineStore();
        Check.outOfBounds("readWord(-1, 0)", () -> x.readWord(-1, 0));
        Check.outOfBounds("readWord(8, 0)", () -> x.readWord(8, 0));
        Check.outOfBounds("readWord(0, -1)", () -> x.readWord(0, -1));
        Check.outOfBounds("readWord(0, 32)", () -> x.readWord(0, 32));
        Check.outOfBounds("readWord(MIN, MAX)", () -> x.readWord(Integer.MIN_VALUE, Integer.MAX_VALUE));
    }

    @Test
    static void promise08WriteWord() {
        DelayLineStore x = new DelayLineStore();
        Check.due("writeWord(7, 31, 524287)", x.writeWord(7, 31, 524287), 0);
        Check.due("writeWord(7, 31, -524288)", x.writeWord(7, 31, -524288), 524287);
        Check.due("writeWord(7, 31, -1)", x.writeWord(7, 31, -1), -524288);
        Check.badArgument("writeWord(7, 31, 524288)", () -> x.writeWord(7, 31, 524288));
        Check.badArgument("writeWord(7, 31, -524289)", () -> x.writeWord(7, 31, -524289));
        Check.outOfBounds("writeWord(8, 31, 524288)", () -> x.writeWord(8, 31, 524288));
        Check.outOfBounds("writeWord(-1, 0, 0)", () -> x.writeWord(-1, 0, 0));
        Check.outOfBounds("writeWord(0, 32, 524288)", () -> x.writeWord(0, 32, 524288));
        Check.outOfBounds("writeWord(0, -1, 1)", () -> x.writeWord(0, -1, 1));
        Check.due("readWord(7, 31)", x.readWord(7, 31), -1);
        Check.due("readWord(0, 0)", x.readWord(0, 0), 0);
    }

    @Test
    static void promises09And11ClearTankAndBitCount() {
        DelayLineStore x = new DelayLineStore();
        for (int cycle = 0; cycle < 32; cycle++) {
            x.writeWord(3, cycle, -1);
        }
        x.writeWord(4, 0, 5);
        x.writeWord(2, 31, 1);
        Check.due("bitCount(3)", x.bitCount(3), 640);
        Check.due("bitCount(4)", x.bitCount(4), 2);
        Check.due("clearTank(3)", x.clearTank(3), 640);
        Check.due("bitCount(3)", x.bitCount(3), 0);
        Check.due("clearTank(3) again", x.clearTank(3), 0);
        Check.due("readWord(3, 31)", x.readWord(3, 31), 0);
        Check.due("bitCount(4)", x.bitCount(4), 2);
        Check.due("bitCount(2)", x.bitCount(2), 1);
        Check.outOfBounds("clearTank(8)", () -> x.clearTank(8));
        Check.outOfBounds("clearTank(-1)", () -> x.clearTank(-1));
        Check.outOfBounds("bitCount(8)", () -> x.bitCount(8));
        Check.outOfBounds("bitCount(-1)", () -> x.bitCount(-1));
    }

    @Test
    static void promise09KeepsTemperatureAndSlips() {
        DelayLineStore x = new DelayLineStore();
        x.setTemperature(1, 500);
        x.idle(32);
        x.clearTank(1);
        Check.due("slips(1)", x.slips(1), 2);
        Check.due("temperature(1)", x.temperature(1), 488);
    }

    @Test
    static void promise10SwapTanks() {
        DelayLineStore x = Texts.computerWith("start 1.0; stop; at 1.5; word 77; at 6.0; word 88;");
        x.setTemperature(1, 500);
        x.run(1);
        x.idle(31);
        int first = x.readWord(1, 5);
        int ones = x.bitCount(1);
        x.swapTanks(1, 6);
        Check.due("readWord(6, 5)", x.readWord(6, 5), first);
        Check.due("bitCount(6)", x.bitCount(6), ones);
        Check.due("readWord(1, 0)", x.readWord(1, 0), 88);
        Check.due("readWord(1, 5)", x.readWord(1, 5), 0);
        Check.due("slips(6)", x.slips(6), 2);
        Check.due("slips(1)", x.slips(1), 0);
        Check.due("temperature(6)", x.temperature(6), 488);
        Check.due("temperature(1)", x.temperature(1), 400);
        Check.due("executedAt(1, 0)", x.executedAt(1, 0), 1);
        Check.due("executedAt(6, 0)", x.executedAt(6, 0), 0);
        x.swapTanks(6, 6);
        Check.due("readWord(6, 5)", x.readWord(6, 5), first);
        Check.due("slips(6)", x.slips(6), 2);
        Check.due("temperature(6)", x.temperature(6), 488);
    }

    @Test
    static void promise10AnyTwoTanks() {
        for (int first = 0; first < 8; first++) {
            DelayLineStore x = new DelayLineStore();
            for (int tank = 0; tank < 8; tank++) {
                x.setTemperature(tank, 400 + 60 * tank);
            }
            x.idle(32);
            for (int tank = 0; tank < 8; tank++) {
                x.setTemperature(tank, 400 + tank);
                x.writeWord(tank, 0, 10 + tank);
                x.writeWord(tank, 31, 20 + tank);
            }
            int second = (first + 3) % 8;
            int firstSlips = x.slips(first);
            int secondSlips = x.slips(second);
            Check.due("the slips differ", firstSlips == secondSlips, false);
            x.swapTanks(first, second);
            for (int tank = 0; tank < 8; tank++) {
                int other = tank == first ? second : tank == second ? first : tank;
                Check.due("temperature", x.temperature(tank), 400 + other);
                Check.due("readWord(.., 0)", x.readWord(tank, 0), 10 + other);
                Check.due("readWord(.., 31)", x.readWord(tank, 31), 20 + other);
            }
            Check.due("slips of the first", x.slips(first), secondSlips);
            Check.due("slips of the second", x.slips(second), firstSlips);
        }
    }

    @Test
    static void promise10OutOfRange() {
        DelayLineStore x = new DelayLineStore();
        x.writeWord(0, 0, 9);
        Check.outOfBounds("swapTanks(8, 0)", () -> x.swapTanks(8, 0));
        Check.outOfBounds("swapTanks(0, 8)", () -> x.swapTanks(0, 8));
        Check.outOfBounds("swapTanks(-1, 0)", () -> x.swapTanks(-1, 0));
        Check.outOfBounds("swapTanks(0, -1)", () -> x.swapTanks(0, -1));
        Check.due("readWord(0, 0)", x.readWord(0, 0), 9);
        x.swapTanks(0, 7);
        Check.due("readWord(7, 0)", x.readWord(7, 0), 9);
    }

    @Test
    static void promise12Slips() {
        DelayLineStore x = new DelayLineStore();
        x.setTemperature(0, 400 + 27);
        x.setTemperature(2, 400 - 27);
        x.setTemperature(3, 400 + 26);
        x.setTemperature(4, 400 - 26);
        for (int tank = 0; tank < 5; tank++) {
            x.writeWord(tank, 1, 1);
            x.writeWord(tank, 0, -524288);
        }
        x.idle(32);
        Check.due("slips(0)", x.slips(0), 1);
        Check.due("a later bit", x.readWord(0, 1), 2 + 1);
        Check.due("its old place", x.readWord(0, 0), 0);
        Check.due("slips(2)", x.slips(2), 1);
        Check.due("an earlier bit", x.readWord(2, 0), -262144);
        Check.due("slips(1)", x.slips(1), 0);
        Check.due("slips(3)", x.slips(3), 0);
        Check.due("slips(4)", x.slips(4), 0);
        Check.due("the word of tank 4", x.readWord(4, 1), 1);
        x.setTemperature(0, 400 + 27);
        x.setTemperature(2, 400 + 27);
        x.idle(32);
        Check.due("slips(0)", x.slips(0), 2);
        Check.due("slips(2)", x.slips(2), 2);
        Check.outOfBounds("slips(8)", () -> x.slips(8));
        Check.outOfBounds("slips(-1)", () -> x.slips(-1));
    }

    @Test
    static void promise12ManyPositions() {
        DelayLineStore x = new DelayLineStore();
        x.setFixedPeriod(900000);
        x.writeWord(5, 30, 1);
        x.writeWord(5, 31, -524288);
        // 64000000 / 900000 is 71.1: three words and 11 bits round the end of the ring.
        x.idle(32);
        Check.due("slips(5)", x.slips(5), 71);
        Check.due("readWord(5, 1)", x.readWord(5, 1), 1 << 11);
        Check.due("readWord(5, 3)", x.readWord(5, 3), 1 << 10);
        Check.due("bitCount(5)", x.bitCount(5), 2);
        Check.due("dropouts()", x.dropouts(), 0);
        x.setFixedPeriod(1100000);
        // -64000000 / 1100000 is -58.2.
        x.idle(32);
        Check.due("slips(5)", x.slips(5), 71 + 58);
        Check.due("readWord(5, 30)", x.readWord(5, 30), 1 << 13);
        Check.due("readWord(5, 0)", x.readWord(5, 0), 1 << 12);
    }

    @Test
    static void promise13Dropouts() {
        DelayLineStore x = new DelayLineStore();
        x.setTemperature(0, 400 + 14);
        x.setTemperature(1, 400 - 14);
        x.setTemperature(2, 400 + 13);
        x.setTemperature(3, 400 - 13);
        x.setTemperature(4, 400 + 14);
        for (int tank = 0; tank < 4; tank++) {
            x.writeWord(tank, 0, -1);
        }
        x.idle(31);
        Check.due("dropouts() before the end", x.dropouts(), 0);
        x.idle(1);
        Check.due("dropouts()", x.dropouts(), 2);
        Check.due("readWord(0, 0) has lost bit 7", x.readWord(0, 0), -1 - (1 << 7));
        Check.due("readWord(1, 0) has lost bit 8", x.readWord(1, 0), -1 - (1 << 8));
        Check.due("readWord(2, 0)", x.readWord(2, 0), -1);
        Check.due("readWord(3, 0)", x.readWord(3, 0), -1);
        x.setTemperature(1, 400 - 14);
        x.idle(32);
        Check.due("dropouts()", x.dropouts(), 3);
        Check.due("readWord(1, 0) has lost bit 15", x.readWord(1, 0), -1 - (1 << 8) - (1 << 15));
    }

    @Test
    static void promise13AfterTheSlip() {
        DelayLineStore x = new DelayLineStore();
        // Two tenths of a degree past one whole slip and 14 tenths: e = 66 * 19200 = 1267200.
        x.setTemperature(0, 466);
        x.writeWord(0, 0, 1 << 6);
        x.idle(32);
        Check.due("slips(0)", x.slips(0), 1);
        Check.due("dropouts()", x.dropouts(), 1);
        Check.due("bitCount(0)", x.bitCount(0), 0);
    }

    @Test
    static void promise13AWholeSlipLosesNothing() {
        DelayLineStore x = new DelayLineStore();
        // e = 52 * 19200 = 998400 is a slip by one, with a rest of -1600; the other tank slips back.
        x.setTemperature(0, 452);
        x.setTemperature(1, 348);
        for (int cycle = 0; cycle < 32; cycle++) {
            x.writeWord(0, cycle, -1);
            x.writeWord(1, cycle, -1);
        }
        x.idle(32);
        Check.due("slips(0)", x.slips(0), 1);
        Check.due("slips(1)", x.slips(1), 1);
        Check.due("dropouts()", x.dropouts(), 0);
    }

    @Test
    static void promise13InALaterWord() {
        DelayLineStore x = new DelayLineStore();
        x.idle(4 * 32);
        x.setTemperature(0, 414);
        x.writeWord(0, 1, -1);
        x.writeWord(0, 0, -1);
        x.idle(32);
        Check.due("readWord(0, 1): bit 35 is lost", x.readWord(0, 1), -1 - (1 << 15));
        Check.due("readWord(0, 0)", x.readWord(0, 0), -1);
    }

    @Test
    static void promise13ThePositionGoesRound() {
        DelayLineStore x = new DelayLineStore();
        x.idle(91 * 32);
        x.setTemperature(7, 400 + 14);
        x.writeWord(7, 0, -1);
        x.writeWord(7, 31, -1);
        x.idle(32);
        Check.due("dropouts()", x.dropouts(), 1);
        Check.due("readWord(7, 0): 7 * 92 + 7 is 11 modulo 640", x.readWord(7, 0), -1 - (1 << 11));
        Check.due("readWord(7, 31)", x.readWord(7, 31), -1);
    }

    // ---- promises 46 and 47

    private static String everything(DelayLineStore x) {
        StringBuilder all = new StringBuilder();
        for (int tank = 0; tank < 8; tank++) {
            all.append(x.temperature(tank)).append(' ').append(x.slips(tank)).append(' ');
            all.append(x.bitCount(tank)).append(' ').append(x.readWord(tank, 9)).append(' ');
        }
        all.append(x.time()).append(' ').append(x.state()).append(' ').append(x.location()).append(' ');
        all.append(x.accumulator()).append(' ').append(x.hasOverflow()).append(' ').append(x.waited()).append(' ');
        all.append(x.executed()).append(' ').append(x.executedAt(0, 0)).append(' ').append(x.dropouts()).append(' ');
        all.append(x.outputLength()).append(' ').append(x.period());
        return all.toString();
    }

    private static DelayLineStore busyComputer() {
        DelayLineStore x = Texts.computerWith("start 0.0; load 0.9; add 0.9; out; in; at 0.9; word 500000;");
        x.setTemperature(0, 414);
        x.setTemperature(3, 700);
        x.setFixedPeriod(1000400);
        x.writeWord(3, 4, 12345);
        x.writeWord(0, 30, -1);
        x.run(3);
        x.offerInput(11);
        x.offerInput(12);
        return x;
    }

    @Test
    static void promises46And47EverythingComesBack() {
        DelayLineStore x = busyComputer();
        String before = everything(x);
        x.save(0);
        String after = everything(x);
        Check.due("save changes nothing", after, before);
        x.run(5);
        x.idle(100);
        x.takeOutput();
        x.setPilot(true);
        x.setPilotTemperature(3);
        x.setOven(17);
        x.setFixedPeriod(999999);
        x.offerInput(13);
        x.swapTanks(0, 3);
        x.start(5, 5);
        x.restore(0);
        Check.due("restore(0)", everything(x), before);
        Check.due("setPilot(false)", x.setPilot(false), false);
        Check.due("setPilotTemperature", x.setPilotTemperature(400), 400);
        Check.due("setOven", x.setOven(400), 400);
        Check.due("setFixedPeriod", x.setFixedPeriod(1000400), 1000400);
        Check.due("takeOutput()", x.takeOutput(), -48576);
        Check.due("run(1)", x.run(1), 1);
        Check.due("accumulator()", x.accumulator(), 11);
        Check.due("offerInput(1)", x.offerInput(1), 2);
        x.restore(0);
        Check.due("restore(0) again", everything(x), before);
    }

    @Test
    static void promise47CountsAndQueuesComeBack() {
        DelayLineStore x = busyComputer();
        x.setFixedPeriod(1000000);
        loseABit(x, 7);
        Check.due("dropouts() before", x.dropouts() > 0, true);
        Check.due("hasOverflow() before", x.hasOverflow(), true);
        x.takeOutput();
        x.start(0, 2);
        x.run(2);
        String before = everything(x);
        x.save(1);
        Texts.assemble(x, "at 0.3; out then 0.4; jover 0.2; at 0.2; in then 0.4;");
        int dropouts = x.dropouts();
        loseABit(x, 1);
        x.start(0, 4);
        Check.due("run(2)", x.run(2), 2);
        Check.due("hasOverflow() meanwhile", x.hasOverflow(), false);
        Check.due("dropouts() meanwhile", x.dropouts() > dropouts, true);
        x.offerInput(21);
        x.offerInput(22);
        x.takeOutput();
        x.restore(1);
        Check.due("everything", everything(x), before);
        Check.due("executedAt(0, 4)", x.executedAt(0, 4), 0);
        Check.due("executedAt(0, 2)", x.executedAt(0, 2), 2);
        Check.due("outputLength()", x.outputLength(), 1);
        Check.due("takeOutput()", x.takeOutput(), -48576);
        Texts.assemble(x, "start 0.0; in; in then 0.0;");
        Check.due("run(2)", x.run(2), 1);
        Check.due("accumulator()", x.accumulator(), 12);
        Check.due("state()", x.state(), 2);
    }

    private static void loseABit(DelayLineStore x, int tank) {
        x.setTemperature(tank, 414);
        for (int cycle = 0; cycle < 32; cycle++) {
            x.writeWord(tank, cycle, -1);
        }
        x.idle(32);
    }

    @Test
    static void promise47NumbersThatWereOverwrittenComeBack() {
        DelayLineStore x = Texts.computerWith("start 0.0; in; out then 0.0;");
        for (int i = 1; i <= 64; i++) {
            x.offerInput(i);
        }
        x.run(6);
        x.save(0);
        x.run(116);
        for (int i = 0; i < 61; i++) {
            x.takeOutput();
        }
        for (int i = 0; i < 60; i++) {
            x.offerInput(-i);
        }
        x.run(120);
        x.restore(0);
        for (int i = 1; i <= 3; i++) {
            Check.due("takeOutput()", x.takeOutput(), i);
        }
        x.run(1);
        Check.due("accumulator()", x.accumulator(), 4);
    }

    @Test
    static void promise46TheSlotsAreApart() {
        DelayLineStore x = new DelayLineStore();
        x.writeWord(0, 0, 1);
        x.save(0);
        x.writeWord(0, 0, 2);
        x.save(1);
        x.writeWord(0, 0, 3);
        x.restore(0);
        Check.due("slot 0", x.readWord(0, 0), 1);
        x.restore(1);
        Check.due("slot 1", x.readWord(0, 0), 2);
        x.writeWord(0, 0, 4);
        x.save(1);
        x.restore(0);
        Check.due("slot 0", x.readWord(0, 0), 1);
        x.restore(1);
        Check.due("slot 1 saved again", x.readWord(0, 0), 4);
        Check.outOfBounds("save(2)", () -> x.save(2));
        Check.outOfBounds("save(-1)", () -> x.save(-1));
    }

    @Test
    static void promise46WhatIsNotSaved() {
        DelayLineStore x = new DelayLineStore();
        Texts.put(x, "?");
        Check.badArgument("assemble()", () -> x.assemble());
        Texts.put(x, "word 5;");
        x.format(0, 0);
        x.save(0);
        x.writeWord(0, 0, -1);
        x.format(0, 0);
        Texts.put(x, " ");
        x.save(1);
        x.restore(0);
        Check.due("formattedByte(0)", x.formattedByte(0), 'c');
        Check.due("errorCode()", x.errorCode(), 1);
        Check.due("truncate(8)", x.truncate(8), 8);
        Check.due("assemble()", x.assemble(), 1);
        x.restore(1);
        Check.due("errorCode()", x.errorCode(), 0);
        Check.due("readWord(0, 0)", x.readWord(0, 0), -1);
    }

    @Test
    static void promise47NothingSaved() {
        DelayLineStore x = new DelayLineStore();
        x.writeWord(0, 0, 5);
        Check.outOfBounds("restore(2)", () -> x.restore(2));
        Check.outOfBounds("restore(-1)", () -> x.restore(-1));
        Check.badState("restore(0)", () -> x.restore(0));
        Check.badState("restore(1)", () -> x.restore(1));
        x.save(1);
        Check.badState("restore(0) after save(1)", () -> x.restore(0));
        x.save(0);
        x.restore(0);
        x.restore(1);
        Check.due("readWord(0, 0)", x.readWord(0, 0), 5);
    }

    @Test
    static void promise47PredictionsLeaveTheSnapshots() {
        DelayLineStore x = busyComputer();
        x.save(0);
        x.save(1);
        String before = everything(x);
        x.predictTime(5);
        x.unsafeAfter();
        Check.due("after predictions", everything(x), before);
        x.restore(1);
        Check.due("restore(1)", everything(x), before);
        x.restore(0);
        Check.due("restore(0)", everything(x), before);
    }
}

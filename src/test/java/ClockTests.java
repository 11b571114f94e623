/** Clock and temperature: promises 14 to 24. */
final class ClockTests {
    private ClockTests() {
    }

    @Test
    static void promises14And15Temperature() {
        DelayLineStore x = new DelayLineStore();
        Check.due("setTemperature(0, 0)", x.setTemperature(0, 0), 400);
        Check.due("setTemperature(7, 1000)", x.setTemperature(7, 1000), 400);
        Check.due("setTemperature(7, 999)", x.setTemperature(7, 999), 1000);
        Check.due("temperature(0)", x.temperature(0), 0);
        Check.due("temperature(7)", x.temperature(7), 999);
        Check.due("temperature(3)", x.temperature(3), 400);
        Check.badArgument("setTemperature(0, -1)", () -> x.setTemperature(0, -1));
        Check.badArgument("setTemperature(0, 1001)", () -> x.setTemperature(0, 1001));
        Check.outOfBounds("setTemperature(8, 1001)", () -> x.setTemperature(8, 1001));
        Check.outOfBounds("setTemperature(-1, 5)", () -> x.setTemperature(-1, 5));
        Check.outOfBounds("temperature(8)", () -> x.temperature(8));
        Check.outOfBounds("temperature(-1)", () -> x.temperature(-1));
        Check.due("temperature(0)", x.temperature(0), 0);
    }

    @Test
    static void promises15And16TheOvenDrawsTheTemperatures() {
        DelayLineStore x = new DelayLineStore();
        Check.due("setOven(1000)", x.setOven(1000), 400);
        x.setTemperature(1, 993);
        x.setTemperature(2, 992);
        x.idle(32);
        Check.due("temperature(0)", x.temperature(0), 475);
        Check.due("temperature(1)", x.temperature(1), 993);
        Check.due("temperature(2)", x.temperature(2), 993);
        Check.due("setOven(0)", x.setOven(0), 1000);
        x.setTemperature(1, 7);
        x.setTemperature(2, 15);
        x.idle(32);
        Check.due("temperature(0)", x.temperature(0), 475 - 59);
        Check.due("temperature(1)", x.temperature(1), 7);
        Check.due("temperature(2)", x.temperature(2), 14);
        Check.due("setPilotTemperature(1)", x.setPilotTemperature(1), 416);
    }

    @Test
    static void promise16SetOven() {
        DelayLineStore x = new DelayLineStore();
        Check.due("setOven(0)", x.setOven(0), 400);
        Check.due("setOven(1000)", x.setOven(1000), 0);
        Check.badArgument("setOven(1001)", () -> x.setOven(1001));
        Check.badArgument("setOven(-1)", () -> x.setOven(-1));
        Check.due("setOven(5)", x.setOven(5), 1000);
        Check.due("temperature(0)", x.temperature(0), 400);
    }

    @Test
    static void promise17SetPilotTemperature() {
        DelayLineStore x = new DelayLineStore();
        Check.due("setPilotTemperature(0)", x.setPilotTemperature(0), 400);
        Check.due("setPilotTemperature(1000)", x.setPilotTemperature(1000), 0);
        Check.badArgument("setPilotTemperature(1001)", () -> x.setPilotTemperature(1001));
        Check.badArgument("setPilotTemperature(-1)", () -> x.setPilotTemperature(-1));
        Check.due("setPilotTemperature(5)", x.setPilotTemperature(5), 1000);
        Check.due("period() with the pilot off", x.period(), 1000000);
    }

    @Test
    static void promises18And20SetPilot() {
        DelayLineStore x = new DelayLineStore();
        x.setPilotTemperature(0);
        Check.due("setPilot(true)", x.setPilot(true), false);
        Check.due("period()", x.period(), 988000);
        Check.due("setPilot(true)", x.setPilot(true), true);
        x.setPilotTemperature(1000);
        Check.due("period()", x.period(), 1018000);
        x.setFixedPeriod(950000);
        Check.due("period()", x.period(), 1018000);
        Check.due("setPilot(false)", x.setPilot(false), true);
        Check.due("period()", x.period(), 950000);
        Check.due("setPilot(false)", x.setPilot(false), false);
    }

    @Test
    static void promise19SetFixedPeriod() {
        DelayLineStore x = new DelayLineStore();
        Check.due("setFixedPeriod(900000)", x.setFixedPeriod(900000), 1000000);
        Check.due("setFixedPeriod(1100000)", x.setFixedPeriod(1100000), 900000);
        Check.badArgument("setFixedPeriod(899999)", () -> x.setFixedPeriod(899999));
        Check.badArgument("setFixedPeriod(1100001)", () -> x.setFixedPeriod(1100001));
        Check.badArgument("setFixedPeriod(0)", () -> x.setFixedPeriod(0));
        Check.due("period()", x.period(), 1100000);
    }

    @Test
    static void promise21Mismatch() {
        DelayLineStore x = new DelayLineStore();
        x.setTemperature(0, 1000);
        x.setTemperature(1, 0);
        x.setTemperature(2, 401);
        Check.due("mismatch(0)", x.mismatch(0), 11520000);
        Check.due("mismatch(1)", x.mismatch(1), -7680000);
        Check.due("mismatch(2)", x.mismatch(2), 19200);
        Check.due("mismatch(7)", x.mismatch(7), 0);
        x.setFixedPeriod(1000001);
        Check.due("mismatch(2)", x.mismatch(2), 18560);
        x.setPilot(true);
        x.setPilotTemperature(401);
        Check.due("mismatch(2)", x.mismatch(2), 0);
        Check.due("mismatch(0)", x.mismatch(0), 11500800);
        Check.outOfBounds("mismatch(8)", () -> x.mismatch(8));
        Check.outOfBounds("mismatch(-1)", () -> x.mismatch(-1));
    }

    @Test
    static void promises22And23SafeTemperatures() {
        DelayLineStore x = new DelayLineStore();
        Check.due("leastSafeTemperature()", x.leastSafeTemperature(), 387);
        Check.due("greatestSafeTemperature()", x.greatestSafeTemperature(), 413);
        x.setFixedPeriod(900000);
        Check.due("leastSafeTemperature()", x.leastSafeTemperature(), -1);
        Check.due("greatestSafeTemperature()", x.greatestSafeTemperature(), -1);
        x.setFixedPeriod(1100000);
        Check.due("leastSafeTemperature()", x.leastSafeTemperature(), -1);
        Check.due("greatestSafeTemperature()", x.greatestSafeTemperature(), -1);
        x.setPilot(true);
        x.setPilotTemperature(0);
        Check.due("leastSafeTemperature()", x.leastSafeTemperature(), 0);
        Check.due("greatestSafeTemperature()", x.greatestSafeTemperature(), 12);
        x.setPilotTemperature(1000);
        Check.due("leastSafeTemperature()", x.leastSafeTemperature(), 987);
        Check.due("greatestSafeTemperature()", x.greatestSafeTemperature(), 1000);
        x.setTemperature(0, 5);
        Check.due("leastSafeTemperature() of any tank", x.leastSafeTemperature(), 987);
    }

    @Test
    static void promises22And23ExactLimits() {
        DelayLineStore x = new DelayLineStore();
        // 640 * 15 = 9600 is half a tenth of a degree, so both limits move apart from each other.
        for (int fixed = 999900; fixed <= 1000100; fixed += 7) {
            x.setFixedPeriod(fixed);
            int least = -1;
            int greatest = -1;
            for (int h = 0; h <= 1000; h++) {
                long e = 640000000L + 19200L * (h - 400) - 640L * fixed;
                if (e <= fixed / 4 && e >= -(fixed / 4)) {
                    least = least < 0 ? h : least;
                    greatest = h;
                }
            }
            Check.due("leastSafeTemperature() at " + fixed, x.leastSafeTemperature(), least);
            Check.due("greatestSafeTemperature() at " + fixed, x.greatestSafeTemperature(), greatest);
        }
    }

    @Test
    static void promise24UnsafeAfter() {
        DelayLineStore x = new DelayLineStore();
        Check.due("unsafeAfter()", x.unsafeAfter(), -1);
        x.setOven(420);
        // 402, 404, 406, 407, 408, 409, 410, 411, 412, 413 and then no more: (420 - 413) / 8 is 0.
        Check.due("unsafeAfter() in an oven of 420", x.unsafeAfter(), -1);
        x.setOven(430);
        // 403, 406, 409, 411, 413, 415
        Check.due("unsafeAfter() in an oven of 430", x.unsafeAfter(), 6);
        x.idle(64);
        Check.due("unsafeAfter() two ends later", x.unsafeAfter(), 4);
        x.idle(128);
        Check.due("unsafeAfter() when it is", x.unsafeAfter(), 0);
        Check.due("temperature(0)", x.temperature(0), 415);
    }

    @Test
    static void promise24ThePilotMovesToo() {
        DelayLineStore x = new DelayLineStore();
        x.setPilot(true);
        x.setOven(1000);
        Check.due("unsafeAfter() with a pilot", x.unsafeAfter(), -1);
        x.setTemperature(3, 413);
        Check.due("unsafeAfter() with a tank at the limit", x.unsafeAfter(), -1);
        x.setTemperature(3, 414);
        Check.due("unsafeAfter() with a tank past the limit", x.unsafeAfter(), 0);
        x.setTemperature(3, 400);
        x.setPilot(false);
        Check.due("unsafeAfter() without a pilot", x.unsafeAfter(), 1);
        Check.due("time()", x.time(), 0);
        Check.due("temperature(3)", x.temperature(3), 400);
    }

    @Test
    static void promise24TheLastTankCounts() {
        DelayLineStore x = new DelayLineStore();
        for (int tank = 0; tank < 8; tank++) {
            x.setTemperature(tank, 386);
            Check.due("unsafeAfter() of tank " + tank, x.unsafeAfter(), 0);
            x.setTemperature(tank, 400);
        }
    }

    @Test
    static void theMajorCycleEndsAtMultiplesOf32() {
        DelayLineStore x = new DelayLineStore();
        x.setTemperature(0, 480);
        x.idle(31);
        Check.due("temperature(0) at 31", x.temperature(0), 480);
        x.idle(1);
        Check.due("temperature(0) at 32", x.temperature(0), 470);
        x.idle(31);
        Check.due("temperature(0) at 63", x.temperature(0), 470);
        x.idle(2);
        Check.due("temperature(0) at 65", x.temperature(0), 462);
        x.idle(63);
        Check.due("temperature(0) at 128", x.temperature(0), 449);
    }

    @Test
    static void theClockOfAnEndIsThatBeforeItsDrift() {
        DelayLineStore x = new DelayLineStore();
        x.setPilot(true);
        x.setPilotTemperature(427);
        x.idle(32);
        Check.due("slips(0)", x.slips(0), 1);
        Check.due("period()", x.period(), 1000720);
        x.idle(32);
        // e = 640 * -720 = -460800 is less than half a period.
        Check.due("slips(0)", x.slips(0), 1);
    }

    @Test
    static void promises22And23OnlyTheEndsAreSafe() {
        DelayLineStore x = new DelayLineStore();
        x.setFixedPeriod(1018397);
        Check.due("leastSafeTemperature()", x.leastSafeTemperature(), 1000);
        Check.due("greatestSafeTemperature()", x.greatestSafeTemperature(), 1000);
        x.setFixedPeriod(987615);
        Check.due("leastSafeTemperature()", x.leastSafeTemperature(), 0);
        Check.due("greatestSafeTemperature()", x.greatestSafeTemperature(), 0);
        x.setFixedPeriod(987614);
        Check.due("leastSafeTemperature()", x.leastSafeTemperature(), -1);
        Check.due("greatestSafeTemperature()", x.greatestSafeTemperature(), -1);
    }

    @Test
    static void aMismatchOfAQuarterIsSafe() {
        DelayLineStore x = new DelayLineStore();
        for (int tank = 0; tank < 8; tank++) {
            x.setTemperature(tank, 189);
        }
        x.setFixedPeriod(993282);
        Check.due("mismatch(0)", x.mismatch(0), 993282 / 4);
        Check.due("greatestSafeTemperature()", x.greatestSafeTemperature(), 189);
        Check.due("unsafeAfter()", x.unsafeAfter(), 1);
        for (int tank = 0; tank < 8; tank++) {
            x.setTemperature(tank, 419);
            x.writeWord(tank, 0, -1);
        }
        x.setFixedPeriod(1000961);
        Check.due("mismatch(0)", x.mismatch(0), -(1000961 / 4));
        Check.due("leastSafeTemperature()", x.leastSafeTemperature(), 419);
        Check.due("unsafeAfter()", x.unsafeAfter(), 1);
        x.idle(32);
        Check.due("dropouts()", x.dropouts(), 0);
    }

    @Test
    static void aQuarterPastAWholeSlipLosesNothing() {
        DelayLineStore x = new DelayLineStore();
        x.setTemperature(0, 96);
        x.setFixedPeriod(901120);
        for (int cycle = 0; cycle < 32; cycle++) {
            x.writeWord(0, cycle, -1);
        }
        x.idle(32);
        Check.due("slips(0)", x.slips(0), 64);
        Check.due("dropouts()", x.dropouts(), 0);
        x.setTemperature(0, 97);
        x.setFixedPeriod(901120 - 100);
        // Now r is -225280 + 19200 + 64000 + 64 * 100: less than a quarter.
        x.idle(32);
        Check.due("dropouts()", x.dropouts(), 0);
    }

    @Test
    static void halfAPeriodSlips() {
        DelayLineStore x = new DelayLineStore();
        x.setTemperature(0, 331);
        x.setFixedPeriod(901447);
        x.idle(32);
        Check.due("slips(0)", x.slips(0), 69);
        x = new DelayLineStore();
        x.setTemperature(0, 331);
        x.setFixedPeriod(901448);
        x.idle(32);
        Check.due("slips(0) of a period that is one longer", x.slips(0), 68);
    }
}

/**
 * The edges that ARITHMETIC, STORE, TIME, and CLOCK AND TEMPERATURE name. Above each test stands the
 * sentence that it holds the class to.
 *
 * A tank at 452 slips by 1 in each major cycle of a period of 1000000, one at 348 by -1, and neither
 * loses a bit: the mismatch is 998400, which leaves a rest of 1600.
 */
final class DescriptionEdgeTests {
    private static final int ONE_UP = 452;
    private static final int ONE_DOWN = 348;

    private DescriptionEdgeTests() {
    }

    /** Lets one major cycle end with a tank at a temperature. */
    private static DelayLineStore afterOneEnd(int tank, int temperature, int cycle, int word) {
        DelayLineStore x = new DelayLineStore();
        x.setTemperature(tank, temperature);
        x.writeWord(tank, cycle, word);
        x.idle(32);
        return x;
    }

    // ---- ARITHMETIC

    /** "A word has 20 bits, numbered from 0, and is a signed number in two's complement." */
    @Test
    static void aWordHas20Bits() {
        DelayLineStore x = new DelayLineStore();
        x.writeWord(0, 0, 524287);
        Check.due("bits of 524287", x.bitCount(0), 19);
        x.writeWord(0, 0, -524288);
        Check.due("bits of -524288", x.bitCount(0), 1);
        x.writeWord(0, 0, -1);
        Check.due("bits of -1", x.bitCount(0), 20);
        x.writeWord(0, 0, 0);
        Check.due("bits of 0", x.bitCount(0), 0);
    }

    /** ".. from -524288 to 524287." */
    @Test
    static void theLeastAndTheGreatestWord() {
        DelayLineStore x = new DelayLineStore();
        x.writeWord(0, 0, -524288);
        x.writeWord(0, 1, 524287);
        Check.due("the least word", x.readWord(0, 0), -524288);
        Check.due("the greatest word", x.readWord(0, 1), 524287);
        Check.due("offerInput(-524288)", x.offerInput(-524288), 1);
        Check.due("offerInput(524287)", x.offerInput(524287), 2);
    }

    /** "To wrap a number means to take its lowest 20 bits as such a signed number." */
    @Test
    static void aWordWrapsAtBothEnds() {
        DelayLineStore x = Texts.computerWith("start 0.0; load 1.0; add 1.1; stop;");
        x.writeWord(1, 0, 524287);
        x.writeWord(1, 1, 1);
        x.run(3);
        Check.due("524287 + 1", x.accumulator(), -524288);
        x.writeWord(1, 0, -524288);
        x.writeWord(1, 1, -1);
        x.start(0, 0);
        x.run(3);
        Check.due("-524288 - 1", x.accumulator(), 524287);
    }

    /** "Divisions in formulas round down": (e + p / 2) / p is -1 for a numerator of -640, and 0 for 0. */
    @Test
    static void aSmallNegativeQuotientRoundsDown() {
        DelayLineStore x = new DelayLineStore();
        x.setTemperature(2, 747);
        x.setFixedPeriod(1011200);
        Check.due("mismatch(2) of minus half a period", x.mismatch(2), -505600);
        x.idle(32);
        Check.due("slips(2) at minus half a period", x.slips(2), 0);
        DelayLineStore y = new DelayLineStore();
        y.setTemperature(2, 747);
        y.setFixedPeriod(1011201);
        Check.due("mismatch(2) of a little more", y.mismatch(2), -506240);
        y.writeWord(2, 0, 1);
        y.idle(32);
        Check.due("slips(2) at a little more", y.slips(2), 1);
        Check.due("readWord(2, 31): the bit has moved down", y.readWord(2, 31), -524288);
    }

    /** "Divisions in formulas round down": half of an odd period, where (e + p / 2) / p comes out even. */
    @Test
    static void halfOfAnOddPeriodRoundsDown() {
        DelayLineStore x = new DelayLineStore();
        x.setTemperature(0, 331);
        x.setFixedPeriod(901447);
        Check.due("mismatch(0) + 450723 is 69 periods", x.mismatch(0) + 450723, 69 * 901447);
        x.idle(32);
        Check.due("slips(0)", x.slips(0), 69);
    }

    /** "Divisions in formulas round down": a quarter of 1000959 is 250239, so that 250240 is past it. */
    @Test
    static void aQuarterOfAPeriodRoundsDown() {
        DelayLineStore x = new DelayLineStore();
        x.setFixedPeriod(1000959);
        x.setTemperature(0, 445);
        Check.due("mismatch(0)", x.mismatch(0), 250240);
        Check.due("greatestSafeTemperature()", x.greatestSafeTemperature(), 444);
        x.writeWord(0, 0, -1);
        x.idle(32);
        Check.due("readWord(0, 0) without bit 7", x.readWord(0, 0), -1 - 128);
    }

    // ---- STORE

    /** "There are 8 tanks, 0 to 7 .. 32 words, which belong to the cycles 0 to 31." */
    @Test
    static void theFirstAndTheLastLocation() {
        DelayLineStore x = new DelayLineStore();
        x.writeWord(0, 0, 11);
        x.writeWord(0, 31, 22);
        x.writeWord(7, 0, 33);
        x.writeWord(7, 31, 44);
        Check.due("0.0", x.readWord(0, 0), 11);
        Check.due("0.31", x.readWord(0, 31), 22);
        Check.due("7.0", x.readWord(7, 0), 33);
        Check.due("7.31", x.readWord(7, 31), 44);
    }

    /** "A tank is a ring of 640 bits": all of them can be 1. */
    @Test
    static void aTankHas640Bits() {
        DelayLineStore x = new DelayLineStore();
        for (int cycle = 0; cycle < 32; cycle++) {
            x.writeWord(7, cycle, -1);
        }
        Check.due("bitCount(7)", x.bitCount(7), 640);
        Check.due("bitCount(6)", x.bitCount(6), 0);
    }

    /** "Bit i of the word of cycle c is at position 20 * c + i": bit 19 is followed by bit 0 of the next word. */
    @Test
    static void bit19IsFollowedByBit0OfTheNextWord() {
        DelayLineStore x = afterOneEnd(3, ONE_UP, 14, -524288);
        Check.due("readWord(3, 15)", x.readWord(3, 15), 1);
        Check.due("readWord(3, 14)", x.readWord(3, 14), 0);
        x = afterOneEnd(3, ONE_DOWN, 15, 1);
        Check.due("readWord(3, 14)", x.readWord(3, 14), -524288);
        Check.due("readWord(3, 15)", x.readWord(3, 15), 0);
    }

    /** "All bits are 0 at first." */
    @Test
    static void allBitsAre0AtFirst() {
        DelayLineStore x = new DelayLineStore();
        for (int tank = 0; tank < 8; tank++) {
            Check.due("bitCount(" + tank + ")", x.bitCount(tank), 0);
            Check.due("readWord(.., 31)", x.readWord(tank, 31), 0);
        }
    }

    // ---- TIME

    /** "Time is counted in minor cycles, from 0 on." */
    @Test
    static void timeBeginsAt0() {
        DelayLineStore x = new DelayLineStore();
        Check.due("time()", x.time(), 0);
        Check.due("idle(1)", x.idle(1), 1);
    }

    /** "In the minor cycle of time t exactly the words of cycle t modulo 32 can be read": of 31, and of 32. */
    @Test
    static void theCycleOfTime32Is0() {
        DelayLineStore x = new DelayLineStore();
        x.idle(31);
        x.start(0, 31);
        x.run(1);
        Check.due("waited() for cycle 31 at 31", x.waited(), 0);
        x.start(0, 0);
        x.run(1);
        Check.due("waited() for cycle 0 at 32", x.waited(), 0);
        Check.due("time()", x.time(), 33);
    }

    /** "Whenever the time becomes a multiple of 32, a major cycle has ended": at 32, not at 0 nor at 31. */
    @Test
    static void theFirstEndIsAt32() {
        DelayLineStore x = new DelayLineStore();
        x.setTemperature(0, ONE_UP);
        Check.due("slips(0) at 0", x.slips(0), 0);
        x.idle(31);
        Check.due("slips(0) at 31", x.slips(0), 0);
        x.idle(1);
        Check.due("slips(0) at 32", x.slips(0), 1);
        x.setTemperature(0, ONE_UP);
        x.idle(31);
        Check.due("slips(0) at 63", x.slips(0), 1);
        x.idle(2);
        Check.due("slips(0) at 65", x.slips(0), 2);
    }

    /** "Whenever the time becomes a multiple of 32": also several times in one call. */
    @Test
    static void manyEndsInOneCall() {
        DelayLineStore x = new DelayLineStore();
        x.setOven(ONE_UP);
        x.setTemperature(5, ONE_UP);
        x.writeWord(5, 0, 1);
        x.idle(3200);
        Check.due("slips(5) after 100 ends", x.slips(5), 100);
        Check.due("readWord(5, 5): position 100", x.readWord(5, 5), 1);
        Check.due("bitCount(5)", x.bitCount(5), 1);
    }

    /** "The following happens for each tank", the first and the last one too. */
    @Test
    static void anEndReachesAllTanks() {
        DelayLineStore x = new DelayLineStore();
        for (int tank = 0; tank < 8; tank++) {
            x.setTemperature(tank, ONE_UP);
            x.writeWord(tank, tank, 1 << tank);
        }
        x.idle(32);
        for (int tank = 0; tank < 8; tank++) {
            Check.due("slips(" + tank + ")", x.slips(tank), 1);
            Check.due("readWord(" + tank + ", " + tank + ")", x.readWord(tank, tank), 2 << tank);
        }
    }

    /** "The bit at position x moves to position (x + k) modulo 640": from 639 to 0. */
    @Test
    static void theRingClosesUpwards() {
        for (int tank = 0; tank < 8; tank++) {
            DelayLineStore x = afterOneEnd(tank, ONE_UP, 31, -524288);
            Check.due("readWord(" + tank + ", 0)", x.readWord(tank, 0), 1);
            Check.due("readWord(" + tank + ", 31)", x.readWord(tank, 31), 0);
            Check.due("bitCount(" + tank + ")", x.bitCount(tank), 1);
        }
    }

    /** ".. (the result of modulo is from 0 to 639, also for negative k)": from 0 to 639. */
    @Test
    static void theRingClosesDownwards() {
        for (int tank = 0; tank < 8; tank++) {
            DelayLineStore x = afterOneEnd(tank, ONE_DOWN, 0, 1);
            Check.due("readWord(" + tank + ", 31)", x.readWord(tank, 31), -524288);
            Check.due("readWord(" + tank + ", 0)", x.readWord(tank, 0), 0);
            Check.due("bitCount(" + tank + ")", x.bitCount(tank), 1);
        }
    }

    /** A slip by a whole word, where no bit changes its number: 640 * 30303 is 20 periods of 969697 less 20. */
    @Test
    static void aSlipBy20MovesWholeWords() {
        DelayLineStore x = new DelayLineStore();
        for (int cycle = 0; cycle < 32; cycle++) {
            x.writeWord(4, cycle, 1000 * cycle - 15000);
        }
        x.setFixedPeriod(969697);
        x.idle(32);
        Check.due("slips(4)", x.slips(4), 20);
        for (int cycle = 0; cycle < 32; cycle++) {
            Check.due("readWord(4, " + cycle + ")", x.readWord(4, cycle), 1000 * ((cycle + 31) % 32) - 15000);
        }
        Check.due("dropouts()", x.dropouts(), 0);
    }

    /** The same downwards: -640 * 32258 is -20 periods of 1032258 and 40 more. */
    @Test
    static void aSlipByMinus20MovesWholeWords() {
        DelayLineStore x = new DelayLineStore();
        for (int cycle = 0; cycle < 32; cycle++) {
            x.writeWord(4, cycle, 1000 * cycle - 15000);
        }
        x.setFixedPeriod(1032258);
        x.idle(32);
        Check.due("slips(4)", x.slips(4), 20);
        for (int cycle = 0; cycle < 32; cycle++) {
            Check.due("readWord(4, " + cycle + ")", x.readWord(4, cycle), 1000 * ((cycle + 1) % 32) - 15000);
        }
        Check.due("dropouts()", x.dropouts(), 0);
    }

    /** The greatest k of all: 75520000 / 900000 is 83.9, so 84. */
    @Test
    static void theGreatestSlip() {
        DelayLineStore x = new DelayLineStore();
        x.setTemperature(6, 1000);
        x.setFixedPeriod(900000);
        x.writeWord(6, 31, 1 << 10);
        x.idle(32);
        Check.due("slips(6)", x.slips(6), 84);
        Check.due("readWord(6, 3): 630 + 84 is 74 modulo 640", x.readWord(6, 3), 1 << 14);
    }

    /** The least k of all: -71680000 / 1100000 is -65.2, so -65. */
    @Test
    static void theLeastSlip() {
        DelayLineStore x = new DelayLineStore();
        x.setTemperature(6, 0);
        x.setFixedPeriod(1100000);
        x.writeWord(6, 0, 1 << 10);
        x.idle(32);
        Check.due("slips(6)", x.slips(6), 65);
        Check.due("readWord(6, 29): 10 - 65 is 585 modulo 640", x.readWord(6, 29), 1 << 5);
    }

    /** "The slip count of the tank increases by the absolute value of k": slips to and fro do not cancel. */
    @Test
    static void slipsToAndFroBothCount() {
        DelayLineStore x = afterOneEnd(1, ONE_UP, 8, 5);
        x.setTemperature(1, ONE_DOWN);
        x.idle(32);
        Check.due("slips(1)", x.slips(1), 2);
        Check.due("readWord(1, 8) is back", x.readWord(1, 8), 5);
    }

    /** "If the absolute value of r is greater than p / 4": r is the quarter itself, 248320, at one more period. */
    @Test
    static void aRestOfAQuarterLosesNothing() {
        DelayLineStore x = new DelayLineStore();
        x.setTemperature(0, 189);
        x.setFixedPeriod(993282);
        Check.due("mismatch(0) is the quarter", x.mismatch(0), 993282 / 4);
        x.writeWord(0, 0, -1);
        x.idle(32);
        Check.due("readWord(0, 0)", x.readWord(0, 0), -1);
        DelayLineStore y = new DelayLineStore();
        y.setTemperature(0, 189);
        y.setFixedPeriod(993281);
        Check.due("mismatch(0) is past it", y.mismatch(0), 248960);
        y.writeWord(0, 0, -1);
        y.idle(32);
        Check.due("readWord(0, 0) without bit 7", y.readWord(0, 0), -1 - 128);
    }

    /** "The absolute value of r": minus the quarter, -250240. */
    @Test
    static void aRestOfMinusAQuarterLosesNothing() {
        DelayLineStore x = new DelayLineStore();
        x.setTemperature(0, 419);
        x.setFixedPeriod(1000961);
        Check.due("mismatch(0) is minus the quarter", x.mismatch(0), -(1000961 / 4));
        x.writeWord(0, 0, -1);
        x.idle(32);
        Check.due("readWord(0, 0)", x.readWord(0, 0), -1);
        DelayLineStore y = new DelayLineStore();
        y.setTemperature(0, 419);
        y.setFixedPeriod(1000962);
        Check.due("mismatch(0) is past it", y.mismatch(0), -250880);
        y.writeWord(0, 0, -1);
        y.idle(32);
        Check.due("readWord(0, 0) without bit 7", y.readWord(0, 0), -1 - 128);
    }

    /** "The bit .. becomes 0; if it was 1, the dropout count increases by 1": a bit that is 0 counts nothing. */
    @Test
    static void aBitThatIs0DoesNotCount() {
        DelayLineStore x = new DelayLineStore();
        x.setTemperature(0, 414);
        x.writeWord(0, 0, -1 - 128);
        x.idle(32);
        Check.due("dropouts()", x.dropouts(), 0);
        Check.due("readWord(0, 0)", x.readWord(0, 0), -1 - 128);
    }

    /** "The bit at position (7 * (time / 32) + tank)" is the one that stands there after the move. */
    @Test
    static void theBitIsLostAfterTheMove() {
        DelayLineStore x = afterOneEnd(0, 466, 0, 1 << 7);
        Check.due("slips(0)", x.slips(0), 1);
        Check.due("the bit that was at 7 has moved on", x.readWord(0, 0), 1 << 8);
        Check.due("dropouts()", x.dropouts(), 0);
        x = afterOneEnd(0, 466, 0, 1 << 6);
        Check.due("the bit that came to 7 is lost", x.bitCount(0), 0);
        Check.due("dropouts()", x.dropouts(), 1);
    }

    /** "At position (7 * (time / 32) + tank) modulo 640": 639 for tank 2 and 0 for tank 3 at the end 91. */
    @Test
    static void thePositionOfTheLostBitGoesRound() {
        DelayLineStore x = new DelayLineStore();
        x.idle(90 * 32);
        x.setTemperature(2, 414);
        x.setTemperature(3, 414);
        x.writeWord(2, 31, -1);
        x.writeWord(2, 0, -1);
        x.writeWord(3, 31, -1);
        x.writeWord(3, 0, -1);
        x.idle(32);
        Check.due("dropouts()", x.dropouts(), 2);
        Check.due("readWord(2, 31) without bit 19", x.readWord(2, 31), 524287);
        Check.due("readWord(2, 0)", x.readWord(2, 0), -1);
        Check.due("readWord(3, 31)", x.readWord(3, 31), -1);
        Check.due("readWord(3, 0) without bit 0", x.readWord(3, 0), -2);
    }

    /** "After this has been done for all tanks, the temperature .. changes": this end has the old one. */
    @Test
    static void theTemperatureChangesAfterTheSlips() {
        DelayLineStore x = new DelayLineStore();
        // 27 tenths are just enough for a slip; after the end 24 are left, which are not.
        x.setTemperature(7, 427);
        x.idle(32);
        Check.due("slips(7)", x.slips(7), 1);
        Check.due("temperature(7)", x.temperature(7), 424);
        x.idle(32);
        Check.due("slips(7)", x.slips(7), 1);
    }

    /** ".. by (oven temperature - its temperature) / 8, where this division rounds towards zero": from below. */
    @Test
    static void aRisingTemperatureStops7Below() {
        DelayLineStore x = new DelayLineStore();
        x.setTemperature(0, 393);
        x.setTemperature(1, 392);
        x.setTemperature(2, 385);
        x.setTemperature(3, 384);
        x.idle(32);
        Check.due("7 below", x.temperature(0), 393);
        Check.due("8 below", x.temperature(1), 393);
        Check.due("15 below", x.temperature(2), 386);
        Check.due("16 below", x.temperature(3), 386);
    }

    /** ".. rounds towards zero": from above. */
    @Test
    static void aFallingTemperatureStops7Above() {
        DelayLineStore x = new DelayLineStore();
        x.setTemperature(0, 407);
        x.setTemperature(1, 408);
        x.setTemperature(2, 415);
        x.setTemperature(3, 416);
        x.idle(32);
        Check.due("7 above", x.temperature(0), 407);
        Check.due("8 above", x.temperature(1), 407);
        Check.due("15 above", x.temperature(2), 414);
        Check.due("16 above", x.temperature(3), 414);
    }

    /** "The temperature of each tank and of the pilot tank changes": whether the pilot is on or off. */
    @Test
    static void thePilotTankChangesToo() {
        DelayLineStore x = new DelayLineStore();
        x.setPilotTemperature(1000);
        x.idle(32);
        Check.due("the pilot tank, off", x.setPilotTemperature(0), 925);
        x.setPilot(true);
        x.idle(32);
        Check.due("the pilot tank, on", x.setPilotTemperature(407), 50);
        x.idle(32);
        Check.due("the pilot tank, 7 above", x.setPilotTemperature(393), 407);
        x.idle(32);
        Check.due("the pilot tank, 7 below", x.setPilotTemperature(400), 393);
    }

    /** A temperature never leaves the range, not even with an oven at its ends. */
    @Test
    static void anOvenAtTheEndsOfTheRange() {
        DelayLineStore x = new DelayLineStore();
        x.setOven(1000);
        x.idle(3200);
        Check.due("temperature(0) in an oven of 1000", x.temperature(0), 993);
        x.setOven(0);
        x.idle(3200);
        Check.due("temperature(0) in an oven of 0", x.temperature(0), 7);
    }

    // ---- CLOCK AND TEMPERATURE

    /** "All temperatures (of the tanks, of the pilot tank and of the oven) are 400 at first." */
    @Test
    static void allTemperaturesAre400AtFirst() {
        DelayLineStore x = new DelayLineStore();
        for (int tank = 0; tank < 8; tank++) {
            Check.due("temperature(" + tank + ")", x.temperature(tank), 400);
        }
        Check.due("the pilot tank", x.setPilotTemperature(1), 400);
        Check.due("the oven", x.setOven(1), 400);
    }

    /** "The delay of a tank with temperature h is 640000000 + 19200 * (h - 400)": at 0 and at 1000. */
    @Test
    static void theDelayAtTheEndsOfTheRange() {
        DelayLineStore x = new DelayLineStore();
        x.setTemperature(0, 0);
        x.setTemperature(7, 1000);
        Check.due("mismatch(0)", x.mismatch(0), -400 * 19200);
        Check.due("mismatch(7)", x.mismatch(7), 600 * 19200);
    }

    /** "If the pilot is on, the period is the delay of the pilot tank divided by 640": at 0 and at 1000. */
    @Test
    static void thePeriodOfAPilotAtTheEndsOfTheRange() {
        DelayLineStore x = new DelayLineStore();
        x.setPilot(true);
        x.setPilotTemperature(0);
        Check.due("period() of a pilot tank at 0", x.period(), 988000);
        x.setPilotTemperature(1000);
        Check.due("period() of a pilot tank at 1000", x.period(), 1018000);
    }

    /** ".. if it is off (it is off at first), the period is the fixed period, 1000000 at first." */
    @Test
    static void thePilotIsOffAtFirst() {
        DelayLineStore x = new DelayLineStore();
        x.setPilotTemperature(0);
        Check.due("period()", x.period(), 1000000);
        Check.due("setPilot(false)", x.setPilot(false), false);
        Check.due("setFixedPeriod(1100000)", x.setFixedPeriod(1100000), 1000000);
        Check.due("period()", x.period(), 1100000);
    }

    /** "A tank is safe if the absolute value of its mismatch is at most the period divided by 4": at most. */
    @Test
    static void aTankWithAMismatchOfAQuarterIsSafe() {
        DelayLineStore x = new DelayLineStore();
        x.setFixedPeriod(993282);
        Check.due("greatestSafeTemperature(), which has the quarter", x.greatestSafeTemperature(), 189);
        x.setFixedPeriod(993281);
        Check.due("greatestSafeTemperature(), past the quarter", x.greatestSafeTemperature(), 188);
        x.setFixedPeriod(1000961);
        Check.due("leastSafeTemperature(), which has minus the quarter", x.leastSafeTemperature(), 419);
        x.setFixedPeriod(1000962);
        Check.due("leastSafeTemperature(), past minus the quarter", x.leastSafeTemperature(), 420);
    }

    /** "An object is used for at most 512 calls": the 512th still answers, late as it is. */
    @Test
    static void the512thCallAnswers() {
        DelayLineStore x = new DelayLineStore();
        x.setTemperature(0, 414);
        for (int call = 2; call <= 511; call++) {
            x.idle(3200);
        }
        Check.due("the time of the 512th call", x.idle(3200), 511 * 3200);
    }

    /** The same with the calls that take longest: 500 countings, each of 65 minor cycles and its waiting. */
    @Test
    static void manyLongRuns() {
        DelayLineStore x = Texts.computerWith("start 0.0; count 1.0 then 0.0;");
        for (int runs = 1; runs <= 500; runs++) {
            x.run(500);
        }
        // Each begins 96 after the one before: 1 + 31 + 32 + 1, and 31 until its cycle comes again.
        Check.due("time()", x.time(), 96 * (500 * 500 - 1) + 65);
        Check.due("executed()", x.executed(), 500 * 500);
        Check.due("executedAt(0, 0)", x.executedAt(0, 0), 500 * 500);
        Check.due("waited()", x.waited(), 62 * (500 * 500) - 31);
    }
}

/** Timing analysis: promises 40 to 43. */
final class TimingTests {
    private TimingTests() {
    }

    private static void ideal(String instruction, int cycle, int due) {
        DelayLineStore x = Texts.computerWith("at 3." + cycle + "; " + instruction + ";");
        Check.due("idealNextCycle of " + instruction + " at " + cycle, x.idealNextCycle(3, cycle), due);
        Check.due("pathTime of " + instruction, x.pathTime(3, cycle, 1) % 32, (due - cycle + 32) % 32);
    }

    @Test
    static void promise40EveryInstruction() {
        ideal("stop", 4, 5);
        ideal("stop", 31, 0);
        String[] direct = {"load", "store", "add", "sub", "and", "xor"};
        for (String name : direct) {
            ideal(name + " 1.9", 4, 10);
            ideal(name + " 1.5", 4, 6);
            ideal(name + " 1.4", 4, 5);
            ideal(name + " 1.31", 31, 0);
        }
        ideal("mul 1.9", 4, 30);
        ideal("mul 1.31", 4, 20);
        ideal("shl 0", 4, 6);
        ideal("shr 31", 4, 5);
        ideal("shl 30", 4, 4);
        ideal("jneg 1.9", 4, 6);
        ideal("jzero 1.9", 30, 0);
        ideal("jover 1.9", 31, 1);
        ideal("in", 4, 6);
        ideal("out", 4, 6);
        ideal("count 1.9", 4, 10);
        ideal("count 1.31", 4, 0);
    }

    @Test
    static void promise40OutOfRange() {
        DelayLineStore x = new DelayLineStore();
        Check.due("idealNextCycle(7, 31)", x.idealNextCycle(7, 31), 0);
        Check.outOfBounds("idealNextCycle(8, 0)", () -> x.idealNextCycle(8, 0));
        Check.outOfBounds("idealNextCycle(-1, 0)", () -> x.idealNextCycle(-1, 0));
        Check.outOfBounds("idealNextCycle(0, 32)", () -> x.idealNextCycle(0, 32));
        Check.outOfBounds("idealNextCycle(0, -1)", () -> x.idealNextCycle(0, -1));
    }

    private static void path(String instruction, int count, int due) {
        DelayLineStore x = Texts.computerWith("at 3.4; " + instruction + " then 5.4; at 5.4; in then 5.5; stop;");
        Check.due("pathTime of " + instruction + " and more", x.pathTime(3, 4, count), due);
        Check.due("time()", x.time(), 0);
    }

    @Test
    static void promise41EveryInstruction() {
        path("stop", 1, 1);
        path("stop", 9, 1);
        path("load 1.4", 1, 33);
        path("store 1.5", 1, 2);
        path("mul 1.9", 1, 26);
        path("mul 1.4", 1, 53);
        path("shl 31", 1, 33);
        path("shr 0", 1, 2);
        path("jneg 0.0", 1, 2);
        path("out", 1, 2);
        path("in", 1, 2);
        path("count 1.4", 1, 65);
        path("count 1.5", 1, 34);
        path("load 1.5", 2, 34);
        path("load 1.5", 3, 32 + 32 + 2);
        path("load 1.5", 200, 32 + 32 + 2);
    }

    @Test
    static void promise41RunsInCircles() {
        DelayLineStore x = Texts.computerWith("at 2.7; jzero 0.0 then 2.7;");
        Check.due("pathTime(2, 7, 1)", x.pathTime(2, 7, 1), 2);
        Check.due("pathTime(2, 7, 2)", x.pathTime(2, 7, 2), 34);
        Check.due("pathTime(2, 7, 200)", x.pathTime(2, 7, 200), 199 * 32 + 2);
        Check.badArgument("pathTime(2, 7, 0)", () -> x.pathTime(2, 7, 0));
        Check.badArgument("pathTime(2, 7, 201)", () -> x.pathTime(2, 7, 201));
        Check.badArgument("pathTime(2, 7, -1)", () -> x.pathTime(2, 7, -1));
        Check.outOfBounds("pathTime(8, 7, 0)", () -> x.pathTime(8, 7, 0));
        Check.outOfBounds("pathTime(-1, 7, 1)", () -> x.pathTime(-1, 7, 1));
        Check.outOfBounds("pathTime(2, 32, 201)", () -> x.pathTime(2, 32, 201));
        Check.outOfBounds("pathTime(2, -1, 1)", () -> x.pathTime(2, -1, 1));
    }

    @Test
    static void promise41ItIsTheTimeOfARun() {
        DelayLineStore x = Texts.computerWith(
                "start 0.0; load 1.3 then 0.9; at 0.9; mul 1.4; shl 5; out; store 1.5; jneg 0.20; stop;"
                + " at 1.3; word 3; word 5;");
        int path = x.pathTime(0, 0, 200);
        x.run(200);
        Check.due("time()", x.time(), path);
        Check.due("executed()", x.executed(), 7);
    }

    @Test
    static void promise41TheWordsAreThoseOfNow() {
        DelayLineStore x = Texts.computerWith("at 0.0; store 0.2 then 0.2; stop; in; stop;");
        Check.due("pathTime(0, 0, 3)", x.pathTime(0, 0, 3), 3 + 31 + 2 + 31 + 1);
    }

    @Test
    static void promise42BestFreeCycle() {
        DelayLineStore x = Texts.computerWith("at 0.0; load 1.3 then 0.9;");
        Check.due("bestFreeCycle(0, 0, 2)", x.bestFreeCycle(0, 0, 2), 4);
        x.writeWord(2, 4, 1);
        Check.due("bestFreeCycle(0, 0, 2)", x.bestFreeCycle(0, 0, 2), 5);
        for (int cycle = 4; cycle < 32; cycle++) {
            x.writeWord(2, cycle, -1);
        }
        Check.due("bestFreeCycle(0, 0, 2)", x.bestFreeCycle(0, 0, 2), 0);
        x.writeWord(2, 0, 1);
        x.writeWord(2, 1, 1);
        x.writeWord(2, 2, 1);
        Check.due("bestFreeCycle(0, 0, 2)", x.bestFreeCycle(0, 0, 2), 3);
        x.writeWord(2, 3, 1);
        Check.due("bestFreeCycle(0, 0, 2)", x.bestFreeCycle(0, 0, 2), -1);
        Check.due("bestFreeCycle(0, 0, 3)", x.bestFreeCycle(0, 0, 3), 4);
        Check.due("time()", x.time(), 0);
    }

    @Test
    static void promise42TheLocationItselfIsNotFree() {
        DelayLineStore x = new DelayLineStore();
        for (int cycle = 0; cycle < 32; cycle++) {
            x.writeWord(4, cycle, 16);
        }
        x.writeWord(4, 6, 0);
        Check.due("bestFreeCycle(4, 6, 4)", x.bestFreeCycle(4, 6, 4), -1);
        Check.due("bestFreeCycle(4, 5, 4)", x.bestFreeCycle(4, 5, 4), 6);
        Check.due("bestFreeCycle(5, 6, 4)", x.bestFreeCycle(5, 6, 4), 6);
        Check.outOfBounds("bestFreeCycle(8, 0, 0)", () -> x.bestFreeCycle(8, 0, 0));
        Check.outOfBounds("bestFreeCycle(-1, 0, 0)", () -> x.bestFreeCycle(-1, 0, 0));
        Check.outOfBounds("bestFreeCycle(0, 32, 0)", () -> x.bestFreeCycle(0, 32, 0));
        Check.outOfBounds("bestFreeCycle(0, -1, 0)", () -> x.bestFreeCycle(0, -1, 0));
        Check.outOfBounds("bestFreeCycle(0, 0, 8)", () -> x.bestFreeCycle(0, 0, 8));
        Check.outOfBounds("bestFreeCycle(0, 0, -1)", () -> x.bestFreeCycle(0, 0, -1));
    }

    @Test
    static void promise43MoveNext() {
        DelayLineStore x = Texts.computerWith("at 0.0; load 1.3 then 5.9; at 5.9; word -77; at 3.3; in then 5.9;");
        Check.due("moveNext(0, 0, 7)", x.moveNext(0, 0, 7), 4);
        Check.due("readWord(7, 4)", x.readWord(7, 4), -77);
        Check.due("readWord(5, 9)", x.readWord(5, 9), 0);
        Check.due("format(0, 0)", Texts.formatted(x, 0, 0), "load 1.3 then 7.4");
        Check.due("format(3, 3)", Texts.formatted(x, 3, 3), "in then 5.9");
        Check.due("moveNext(0, 0, 7) again", x.moveNext(0, 0, 7), 5);
        Check.due("readWord(7, 5)", x.readWord(7, 5), -77);
        Check.due("readWord(7, 4)", x.readWord(7, 4), 0);
        Check.due("time()", x.time(), 0);
    }

    @Test
    static void promise43HighNextCycles() {
        DelayLineStore x = Texts.computerWith("at 6.20; jover 6.21 then 6.2; at 6.2; word 524287;");
        Check.due("moveNext(6, 20, 6)", x.moveNext(6, 20, 6), 22);
        Check.due("readWord(6, 22)", x.readWord(6, 22), 524287);
        Check.due("format(6, 20)", Texts.formatted(x, 6, 20), "jover 6.21 then 6.22");
        Check.due("readWord(6, 20)", x.readWord(6, 20), (12 | 6 << 4 | 21 << 7 | 6 << 12 | 22 << 15) - 1048576);
    }

    @Test
    static void promise43AnEmptyNext() {
        DelayLineStore x = Texts.computerWith("at 0.0; in then 1.2;");
        Check.due("moveNext(0, 0, 1)", x.moveNext(0, 0, 1), 2);
        Check.due("readWord(1, 2)", x.readWord(1, 2), 0);
        Check.due("format(0, 0)", Texts.formatted(x, 0, 0), "in then 1.2");
        Check.due("moveNext(0, 0, 3)", x.moveNext(0, 0, 3), 2);
        Check.due("format(0, 0)", Texts.formatted(x, 0, 0), "in then 3.2");
    }

    @Test
    static void promise43Refusals() {
        DelayLineStore x = Texts.computerWith("at 2.5; in then 2.5; at 2.6; in then 3.1; at 3.1; word 5;");
        Check.badState("moveNext of its own next", () -> x.moveNext(2, 5, 4));
        for (int cycle = 0; cycle < 32; cycle++) {
            x.writeWord(4, cycle, 1);
        }
        Check.badState("moveNext into a full tank", () -> x.moveNext(2, 6, 4));
        Check.badState("moveNext of both", () -> x.moveNext(2, 5, 4));
        Check.due("readWord(3, 1)", x.readWord(3, 1), 5);
        Check.due("format(2, 6)", Texts.formatted(x, 2, 6), "in then 3.1");
        Check.outOfBounds("moveNext(8, 0, 0)", () -> x.moveNext(8, 0, 0));
        Check.outOfBounds("moveNext(-1, 0, 0)", () -> x.moveNext(-1, 0, 0));
        Check.outOfBounds("moveNext(2, 32, 4)", () -> x.moveNext(2, 32, 4));
        Check.outOfBounds("moveNext(2, -1, 4)", () -> x.moveNext(2, -1, 4));
        Check.outOfBounds("moveNext(2, 5, 8)", () -> x.moveNext(2, 5, 8));
        Check.outOfBounds("moveNext(2, 5, -1)", () -> x.moveNext(2, 5, -1));
    }
}

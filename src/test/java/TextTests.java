/** The text buffer, the assembler and the disassembler: promises 2 to 6, 44 and 45. */
final class TextTests {
    private static final String[] MNEMONICS = {
        "stop", "load", "store", "add", "sub", "and", "xor", "mul",
        "shl", "shr", "jneg", "jzero", "jover", "in", "out", "count",
    };

    private TextTests() {
    }

    // ---- promises 2 and 3

    @Test
    static void promise02Append() {
        DelayLineStore x = new DelayLineStore();
        for (int i = 1; i <= 30; i++) {
            Check.due("append " + i, x.append(0x20202020, 0x20202020, 0x0A0A0A0A, 0x20202020, 0x20202020), 20 * i);
        }
        Check.badState("append to 600 bytes", () -> x.append(0x20202020, 0, 0, 0, 0));
        Check.due("truncate(600)", x.truncate(600), 600);
        Check.due("truncate(581)", x.truncate(581), 581);
        Check.badState("append to 581 bytes", () -> x.append(0x20202020, 0, 0, 0, 0));
        Check.due("truncate(580)", x.truncate(580), 580);
        Check.due("append to 580 bytes", x.append(0x20202020, 0x20202020, 0x20202020, 0x20202020, 0x20202020), 600);
        Check.due("assemble() of 600 blanks", x.assemble(), 0);
    }

    @Test
    static void promise02BytesInOrder() {
        DelayLineStore x = new DelayLineStore();
        // "abcd" .. : the first letter that can't stand there shows where a byte went.
        x.append(0x776F7264, 0x20313233, 0x3B777264, 0x20343536, 0x3B202020);
        Check.badArgument("assemble()", () -> x.assemble());
        Check.due("errorPosition()", x.errorPosition(), 9);
        x.append(0x776F7264, 0x20313233, 0x3B776F72, 0x64203435, 0x363B2020);
        Check.due("assemble()", x.assemble(), 2);
        Check.due("readWord(0, 0)", x.readWord(0, 0), 123);
        Check.due("readWord(0, 1)", x.readWord(0, 1), 456);
    }

    @Test
    static void promise02HighBytesAreKept() {
        DelayLineStore x = new DelayLineStore();
        x.append(0x20202020, 0x202020A0, 0, 0, 0);
        Check.badArgument("assemble()", () -> x.assemble());
        Check.due("errorPosition()", x.errorPosition(), 7);
        x.append(0x80000000, 0, 0, 0, 0);
        Check.badArgument("assemble()", () -> x.assemble());
        Check.due("errorPosition()", x.errorPosition(), 0);
    }

    @Test
    static void promise03Truncate() {
        DelayLineStore x = new DelayLineStore();
        Texts.put(x, "word 12345;");
        Check.outOfBounds("truncate(-1)", () -> x.truncate(-1));
        Check.outOfBounds("truncate(12)", () -> x.truncate(12));
        Check.outOfBounds("truncate(MAX)", () -> x.truncate(Integer.MAX_VALUE));
        Check.due("truncate(11)", x.truncate(11), 11);
        Check.due("truncate(7)", x.truncate(7), 7);
        Check.outOfBounds("truncate(8)", () -> x.truncate(8));
        Texts.put(x, ";");
        Check.due("assemble()", x.assemble(), 1);
        Check.due("readWord(0, 0)", x.readWord(0, 0), 12);
        Check.outOfBounds("truncate(1)", () -> x.truncate(1));
        Check.due("truncate(0)", x.truncate(0), 0);
    }

    // ---- promise 4

    @Test
    static void promise04EveryInstruction() {
        for (int opcode = 0; opcode < 16; opcode++) {
            String name = MNEMONICS[opcode];
            boolean shift = name.equals("shl") || name.equals("shr");
            boolean bare = name.equals("stop") || name.equals("in") || name.equals("out");
            String operand = bare ? "" : shift ? " 31" : " 7.30";
            DelayLineStore x = Texts.computerWith("at 3.30;" + name + operand + ";" + name + operand + " then 5.17;");
            int tank = bare || shift ? 0 : 7;
            int cycle = bare ? 0 : shift ? 31 : 30;
            Check.due(name, x.readWord(3, 30), Texts.word(opcode, tank, cycle, 3, 31));
            Check.due(name + " then", x.readWord(3, 31), Texts.word(opcode, tank, cycle, 5, 17));
        }
    }

    @Test
    static void promise04Places() {
        DelayLineStore x = new DelayLineStore();
        x.writeWord(0, 1, 99);
        Check.due("assemble()", Texts.assemble(x, "word 1; at 2.31; in; word -7; at 0.2; stop; at 7.0;"), 4);
        Check.due("0.0", x.readWord(0, 0), 1);
        Check.due("0.1 is kept", x.readWord(0, 1), 99);
        Check.due("2.31", x.readWord(2, 31), Texts.word(13, 0, 0, 2, 0));
        Check.due("2.0", x.readWord(2, 0), -7);
        Check.due("0.2", x.readWord(0, 2), Texts.word(0, 0, 0, 0, 3));
        Check.due("time()", x.time(), 0);
        Check.due("assemble() again", Texts.assemble(x, "word 3;"), 1);
        Check.due("0.0", x.readWord(0, 0), 3);
        Check.due("2.0 is kept", x.readWord(2, 0), -7);
    }

    @Test
    static void promise04Start() {
        DelayLineStore x = new DelayLineStore();
        Check.due("assemble()", Texts.assemble(x, "word 1;"), 1);
        Check.due("state() without start", x.state(), 1);
        Check.due("location() without start", x.location(), 0);
        Check.due("assemble()", Texts.assemble(x, "start 3.4; start 1.2;"), 0);
        Check.due("state()", x.state(), 0);
        Check.due("location()", x.location(), 34);
        Texts.put(x, "start 5.5; wor");
        Check.badArgument("assemble()", () -> x.assemble());
        Check.due("location() after an error", x.location(), 34);
        Check.due("assemble()", Texts.assemble(x, ""), 0);
        Check.due("location() after an empty text", x.location(), 34);
    }

    @Test
    static void promise04StartOfAWaitingComputer() {
        DelayLineStore x = Texts.computerWith("start 0.0; in;");
        x.run(1);
        Check.due("state()", x.state(), 2);
        Texts.assemble(x, "at 1.0; stop;");
        Check.due("state() without start", x.state(), 2);
        Texts.assemble(x, "start 1.0;");
        Check.due("state()", x.state(), 0);
    }

    @Test
    static void promise04AnErrorChangesNothing() {
        DelayLineStore x = new DelayLineStore();
        Texts.put(x, "word 5; at 1.1; word 6; start 2.2; word 1000000;");
        Check.badArgument("assemble()", () -> x.assemble());
        Check.due("0.0", x.readWord(0, 0), 0);
        Check.due("1.1", x.readWord(1, 1), 0);
        Check.due("state()", x.state(), 1);
        Check.outOfBounds("truncate(1): the buffer is empty", () -> x.truncate(1));
        Check.due("assemble() of nothing", x.assemble(), 0);
        Check.due("0.0", x.readWord(0, 0), 0);
    }

    @Test
    static void promise04WordsAndBlanks() {
        Texts.good("", 0);
        Texts.good(" \n ", 0);
        Texts.good("word 524287;", 1);
        Texts.good("word -524288;", 1);
        Texts.good("word - \n 524288 \n ; ", 1);
        Texts.good("word -0;", 1);
        Texts.good("word 000007;", 1);
        Texts.good("load1.3then0.5;in;out;", 3);
        Texts.good("\n at 0 . 5 ;\nshl 0;shr\n31;", 2);
        Texts.good("at 007.000031;stop;", 1);
        DelayLineStore x = Texts.computerWith("word 524287; word -524288; word - 5; word 000007; word -0;");
        Check.due("0.0", x.readWord(0, 0), 524287);
        Check.due("0.1", x.readWord(0, 1), -524288);
        Check.due("0.2", x.readWord(0, 2), -5);
        Check.due("0.3", x.readWord(0, 3), 7);
        Check.due("0.4", x.readWord(0, 4), 0);
    }

    @Test
    static void promise04AFullText() {
        Texts.bad("in;".repeat(33), 3, 96);
        StringBuilder long600 = new StringBuilder("at 1.0;");
        while (long600.length() < 600) {
            long600.append(long600.length() < 100 ? "in;" : " ");
        }
        Texts.good(long600.toString(), 31);
    }

    // ---- promises 4 to 6: errors

    @Test
    static void promise04TokensThatCannotStandThere() {
        Texts.bad("at 0.0", 1, 6);
        Texts.bad("at 0.0  \n", 1, 9);
        Texts.bad("word", 1, 4);
        Texts.bad("word -", 1, 6);
        Texts.bad("word - -1;", 1, 7);
        Texts.bad("word 1.2;", 1, 6);
        Texts.bad("word 5 then 0.1;", 1, 7);
        Texts.bad(";", 1, 0);
        Texts.bad("in;;", 1, 3);
        Texts.bad("load;", 1, 4);
        Texts.bad("load 1;", 1, 6);
        Texts.bad("load 1.;", 1, 7);
        Texts.bad("load -1.2;", 1, 5);
        Texts.bad("load 1.2 3;", 1, 9);
        Texts.bad("load 1.2 then;", 1, 13);
        Texts.bad("load 1.2 then 3.4 then 5.6;", 1, 18);
        Texts.bad("shl;", 1, 3);
        Texts.bad("shl 1.2;", 1, 5);
        Texts.bad("shl -1;", 1, 4);
        Texts.bad("stop 1.2;", 1, 5);
        Texts.bad("in 1;", 1, 3);
        Texts.bad("then 0.1;", 1, 0);
        Texts.bad("start;", 1, 5);
        Texts.bad("start 0.0 then 1.1;", 1, 10);
        Texts.bad("at 0.0 in;", 1, 7);
        Texts.bad("inout;", 1, 0);
        Texts.bad("in out;", 1, 3);
        Texts.bad("loa 1.2;", 1, 0);
        Texts.bad("loads 1.2;", 1, 0);
        Texts.bad("in; 5;", 1, 4);
    }

    @Test
    static void promise04BytesThatStartNoToken() {
        Texts.bad("Load 1.2;", 1, 0);
        Texts.bad("loaD 1.2;", 1, 0);
        Texts.bad("at 0.0;\tin;", 1, 7);
        Texts.bad("at 0,0;", 1, 4);
        Texts.bad("word +1;", 1, 5);
        Texts.bad("in;\u00E9", 1, 3);
        Texts.bad("in;`", 1, 3);
        Texts.bad("in;{", 1, 3);
        Texts.bad("word 1:", 1, 6);
        Texts.bad("word 1/", 1, 6);
        Texts.bad("in;\r\n", 1, 3);
        Texts.bad("in;\0", 1, 3);
    }

    @Test
    static void promise04RunsOfDigits() {
        Texts.bad("word 1234567;", 1, 5);
        Texts.bad("word 0000001;", 1, 5);
        Texts.bad("word -1234567;", 1, 6);
        Texts.bad("at 4294967296.0;", 1, 3);
        Texts.bad("shl 4294967297;", 1, 4);
        Texts.bad("word 999999;", 2, 5);
        Texts.bad("word 1234567", 1, 5);
    }

    @Test
    static void promise04NumbersOutOfRange() {
        Texts.bad("at 8.0;", 2, 3);
        Texts.bad("at 0.32;", 2, 5);
        Texts.bad("at 8.32;", 2, 3);
        Texts.bad("start 8.0;", 2, 6);
        Texts.bad("start 7.32;", 2, 8);
        Texts.bad("load 8.1;", 2, 5);
        Texts.bad("load 7.32;", 2, 7);
        Texts.bad("in then 8.0;", 2, 8);
        Texts.bad("in then 0.32;", 2, 10);
        Texts.bad("shl 32;", 2, 4);
        Texts.bad("shr 32;", 2, 4);
        Texts.bad("word 524288;", 2, 5);
        Texts.bad("word -524289;", 2, 6);
        Texts.bad("word - 524289;", 2, 7);
        Texts.bad("at 8 x;", 2, 3);
        Texts.bad("at 8", 2, 3);
        Texts.good("at 7.31; shl 31; shr 0;", 2);
    }

    @Test
    static void promise04PlacesWrittenBefore() {
        Texts.bad("word 1; at 0.0; word 2;", 3, 16);
        Texts.bad("word 1; at 0.0; in;", 3, 16);
        Texts.bad("in; at 0.0; word 2;", 3, 12);
        Texts.bad("word 1; at 0.0; word x;", 3, 16);
        Texts.bad("word 1; at 0.0; load 9.0;", 3, 16);
        Texts.bad("word 1; at 0.0; wor 2;", 1, 16);
        Texts.bad("at 1.31; in; in; at 1.31; at 1.0; in;", 3, 34);
        Texts.good("word 1; at 0.0; start 0.0; at 0.1; word 2;", 2);
        Texts.good("word 0; at 1.0; word 0;", 2);
        Texts.bad("word 0; at 0.0; word 0;", 3, 16);
    }

    @Test
    static void promise04TheFirstErrorFromTheLeft() {
        Texts.bad("at 8.99; word x;", 2, 3);
        Texts.bad("word x; at 8.0;", 1, 5);
        Texts.bad("word 999999; at 0.0; ?", 2, 5);
        Texts.bad("shl 32 32", 2, 4);
    }

    @Test
    static void promises05And06AreOfTheLatestText() {
        DelayLineStore x = new DelayLineStore();
        Check.due("errorCode()", x.errorCode(), 0);
        Check.due("errorPosition()", x.errorPosition(), -1);
        Texts.put(x, " word 600000;");
        Check.badArgument("assemble()", () -> x.assemble());
        Check.due("errorCode()", x.errorCode(), 2);
        Check.due("errorPosition()", x.errorPosition(), 6);
        Texts.put(x, "in");
        Check.due("errorCode() before assemble()", x.errorCode(), 2);
        Check.badArgument("assemble()", () -> x.assemble());
        Check.due("errorCode()", x.errorCode(), 1);
        Check.due("errorPosition()", x.errorPosition(), 2);
        Texts.assemble(x, "in;");
        Check.due("errorCode()", x.errorCode(), 0);
        Check.due("errorPosition()", x.errorPosition(), -1);
        Texts.put(x, "?");
        Check.badArgument("assemble()", () -> x.assemble());
        Check.due("errorCode()", x.errorCode(), 1);
        Check.due("errorPosition()", x.errorPosition(), 0);
    }

    // ---- promises 44 and 45

    @Test
    static void promise44Format() {
        for (int opcode = 0; opcode < 16; opcode++) {
            String name = MNEMONICS[opcode];
            boolean shift = name.equals("shl") || name.equals("shr");
            boolean bare = name.equals("stop") || name.equals("in") || name.equals("out");
            DelayLineStore x = new DelayLineStore();
            x.writeWord(4, 9, Texts.word(opcode, 5, 30, 7, 10));
            String operand = bare ? "" : shift ? " 30" : " 5.30";
            Check.due("format " + opcode, Texts.formatted(x, 4, 9), name + operand + " then 7.10");
            x.writeWord(4, 9, Texts.word(opcode, 0, 0, 0, 9));
            operand = bare ? "" : shift ? " 0" : " 0.0";
            Check.due("format " + opcode, Texts.formatted(x, 4, 9), name + operand + " then 0.9");
        }
    }

    @Test
    static void promise44Edges() {
        DelayLineStore x = new DelayLineStore();
        Check.due("format(7, 31) of 0", x.format(7, 31), 13);
        Check.due("its text", Texts.formatted(x, 7, 31), "stop then 0.0");
        x.writeWord(0, 0, -1);
        Check.due("the text of -1", Texts.formatted(x, 0, 0), "count 7.31 then 7.31");
        Check.due("its length", x.format(0, 0), 20);
        x.writeWord(0, 0, -524288);
        Check.due("the text of -524288", Texts.formatted(x, 0, 0), "stop then 0.16");
        Check.outOfBounds("format(8, 0)", () -> x.format(8, 0));
        Check.outOfBounds("format(-1, 0)", () -> x.format(-1, 0));
        Check.outOfBounds("format(0, 32)", () -> x.format(0, 32));
        Check.outOfBounds("format(0, -1)", () -> x.format(0, -1));
        Check.due("the text is kept", x.formattedByte(13), '6');
    }

    @Test
    static void promise45FormattedByte() {
        DelayLineStore x = new DelayLineStore();
        Check.outOfBounds("formattedByte(0)", () -> x.formattedByte(0));
        x.writeWord(0, 0, -1);
        x.format(0, 0);
        Check.due("formattedByte(0)", x.formattedByte(0), 'c');
        Check.due("formattedByte(5)", x.formattedByte(5), ' ');
        Check.due("formattedByte(19)", x.formattedByte(19), '1');
        Check.outOfBounds("formattedByte(20)", () -> x.formattedByte(20));
        Check.outOfBounds("formattedByte(-1)", () -> x.formattedByte(-1));
        Check.outOfBounds("formattedByte(MIN)", () -> x.formattedByte(Integer.MIN_VALUE));
        x.format(1, 0);
        Check.due("formattedByte(0)", x.formattedByte(0), 's');
        Check.outOfBounds("formattedByte(13) of a shorter text", () -> x.formattedByte(13));
    }
}

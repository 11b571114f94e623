/** The edges that PROGRAM TEXT names. Above each test stands the sentence that it holds the class to. */
final class ProgramTextEdgeTests {
    private static final String[] WITH_LOCATION = {
        "load", "store", "add", "sub", "and", "xor", "mul", "jneg", "jzero", "jover", "count",
    };
    private static final String[] WITHOUT_OPERAND = {"stop", "in", "out"};

    private ProgramTextEdgeTests() {
    }

    // ---- the text

    /** "A program is a text of at most 600 bytes": one of 600, with as many statements as fit. */
    @Test
    static void aTextOf600Bytes() {
        StringBuilder text = new StringBuilder();
        text.append("in;".repeat(32));
        for (int tank = 1; tank < 5; tank++) {
            text.append("at").append(tank).append(".0;").append("in;".repeat(32));
        }
        text.append("at5.0;").append("in;".repeat(30));
        DelayLineStore x = new DelayLineStore();
        Texts.put(x, text.toString());
        Check.due("truncate(600)", x.truncate(600), 600);
        Check.due("assemble()", x.assemble(), 5 * 32 + 30);
        Check.due("5.29", x.readWord(5, 29), Texts.word(13, 0, 0, 5, 30));
        Check.due("5.30", x.readWord(5, 30), 0);
        Check.due("4.31", x.readWord(4, 31), Texts.word(13, 0, 0, 4, 0));
    }

    /** ".. the end has the text length as its position": 600. */
    @Test
    static void theEndOf600Bytes() {
        Texts.bad(" ".repeat(598) + "in", 1, 600);
        Texts.bad("in" + "\n".repeat(598), 1, 600);
        Texts.bad("a".repeat(600), 1, 0);
        Texts.bad("9".repeat(600), 1, 0);
        Texts.good(" ".repeat(600), 0);
    }

    /** "program = { statement ";" }": an empty text is a program. */
    @Test
    static void anEmptyText() {
        DelayLineStore x = new DelayLineStore();
        Check.due("assemble()", x.assemble(), 0);
        Check.due("errorCode()", x.errorCode(), 0);
        Check.due("errorPosition()", x.errorPosition(), -1);
        Check.due("state()", x.state(), 1);
    }

    /** "program = { statement ";" }": no empty statement, and none without its end. */
    @Test
    static void noEmptyStatement() {
        Texts.bad(";", 1, 0);
        Texts.bad("in;;", 1, 3);
        Texts.bad("in", 1, 2);
        Texts.bad("in in;", 1, 3);
        Texts.bad("in;in", 1, 5);
    }

    // ---- tokens

    /** "Tokens are as long as possible: words (maximal runs of letters a to z)". */
    @Test
    static void wordsAreMaximalRuns() {
        Texts.bad("inin;", 1, 0);
        Texts.bad("in; stopp;", 1, 4);
        Texts.bad("s top;", 1, 0);
        Texts.bad("at 0.0; loadload 1.2;", 1, 8);
        Texts.bad("load 1.2 thens 3.4;", 1, 9);
        Texts.bad("load 1.2 the 3.4;", 1, 9);
        Texts.good("at0.0;shl3then0.5;", 1);
    }

    /** "Maximal runs of letters a to z": not those beside them in the table of bytes, nor large ones. */
    @Test
    static void otherLettersStartNoToken() {
        Texts.bad("in;`", 1, 3);
        Texts.bad("in;{", 1, 3);
        Texts.bad("in;A", 1, 3);
        Texts.bad("in;Z", 1, 3);
        Texts.bad("in;@", 1, 3);
        Texts.bad("In;", 1, 0);
        Texts.bad("iN;", 1, 0);
        Texts.bad("in;zz;", 1, 3);
        Texts.bad("in;aa;", 1, 3);
    }

    /** "Numbers (maximal runs of 1 to 6 digits)": 1 and 6 are runs, leading zeros too. */
    @Test
    static void runsOf1To6Digits() {
        Texts.good("word 0;", 1);
        Texts.good("word 9;", 1);
        Texts.good("word 123456;", 1);
        Texts.good("word 000000;", 1);
        Texts.good("at 000007.000031; shl 000031 then 000000.000001;", 1);
        DelayLineStore x = Texts.computerWith("word 123456; word 000090;");
        Check.due("0.0", x.readWord(0, 0), 123456);
        Check.due("0.1", x.readWord(0, 1), 90);
    }

    /** "A run of more than 6 digits" is an error at its first byte, even if its number is a small one. */
    @Test
    static void runsOf7Digits() {
        Texts.bad("word 1234567;", 1, 5);
        Texts.bad("word 0000000;", 1, 5);
        Texts.bad("at 0000001.0;", 1, 3);
        Texts.bad("at 0.0000001;", 1, 5);
        Texts.bad("shl 0000001;", 1, 4);
        Texts.bad("in then 0.0000001;", 1, 10);
        Texts.bad("word 4294967296;", 1, 5);
        Texts.bad("in; 1234567", 1, 4);
    }

    /** "Maximal runs": two runs are two numbers. */
    @Test
    static void aBlankPartsARun() {
        Texts.bad("word 12 3;", 1, 8);
        Texts.bad("at 0.1 2;", 1, 7);
        Texts.bad("shl 1 2;", 1, 6);
    }

    /** "The one-byte symbols ".", ";" and "-"": none begins a statement. */
    @Test
    static void noSymbolBeginsAStatement() {
        Texts.bad(".", 1, 0);
        Texts.bad("-", 1, 0);
        Texts.bad(";", 1, 0);
        Texts.bad("in;.", 1, 3);
        Texts.bad("7;", 1, 0);
    }

    /** "Blanks (bytes 10 and 32) may stand before, between and behind tokens." */
    @Test
    static void blanksBetweenAllTokens() {
        String text = " at 1 . 2 ; word - 5 ; load 3 . 4 then 5 . 6 ; ".replace(" ", " \n ");
        DelayLineStore x = new DelayLineStore();
        Check.due("assemble()", Texts.assemble(x, text), 2);
        Check.due("1.2", x.readWord(1, 2), -5);
        Check.due("1.3", x.readWord(1, 3), Texts.word(1, 3, 4, 5, 6));
    }

    /** No blank is needed where the next byte belongs to no token of the same kind. */
    @Test
    static void noBlanksAtAll() {
        DelayLineStore x = new DelayLineStore();
        Check.due("assemble()", Texts.assemble(x, "at1.2;word-5;load3.4then5.6;start1.3;"), 2);
        Check.due("1.2", x.readWord(1, 2), -5);
        Check.due("1.3", x.readWord(1, 3), Texts.word(1, 3, 4, 5, 6));
        Check.due("location()", x.location(), 32 + 3);
    }

    /** "Bytes 10 and 32": their neighbours and other blanks start no token. */
    @Test
    static void otherBlanksStartNoToken() {
        int[] bytes = {0, 9, 11, 12, 13, 31, 33, 127, 128, 160, 255};
        for (int b : bytes) {
            Texts.bad("in;" + (char) b, 1, 3);
            Texts.bad("in;" + (char) b + "in;", 1, 3);
        }
    }

    /** "A byte that starts no token": beside digits and symbols in the table of bytes. */
    @Test
    static void otherSignsStartNoToken() {
        for (char sign : "/:,+_\"<".toCharArray()) {
            Texts.bad("in;" + sign, 1, 3);
            Texts.bad("word " + sign + "1;", 1, 5);
            Texts.bad("word 1" + sign, 1, 6);
        }
    }

    // ---- the grammar

    /** "The end": in the middle of each statement, at the text length, with and without blanks behind. */
    @Test
    static void theEndAfterEachToken() {
        String[] texts = {
            "at", "at 1", "at 1.", "at 1.2", "start", "start 1", "start 1.", "start 1.2", "word", "word -", "word 5",
            "word - 5", "load", "load 1", "load 1.", "load 1.2", "load 1.2 then", "load 1.2 then 3",
            "load 1.2 then 3.", "load 1.2 then 3.4", "shl", "shl 5", "shl 5 then", "stop", "stop then",
            "stop then 3", "stop then 3.", "stop then 3.4", "in", "out",
        };
        for (String text : texts) {
            Texts.bad(text, 1, text.length());
            Texts.bad(text + " \n ", 1, text.length() + 3);
        }
    }

    /** Every instruction as the grammar has it, and no operand that it does not have. */
    @Test
    static void operandsAsTheGrammarHasThem() {
        for (String name : WITH_LOCATION) {
            Texts.good(name + " 1.2;", 1);
            Texts.bad(name + ";", 1, name.length());
            Texts.bad(name + " 1;", 1, name.length() + 2);
            Texts.bad(name + " then 1.2;", 1, name.length() + 1);
        }
        for (String name : WITHOUT_OPERAND) {
            Texts.good(name + ";", 1);
            Texts.bad(name + " 1.2;", 1, name.length() + 1);
            Texts.bad(name + " 1;", 1, name.length() + 1);
        }
        for (String name : new String[] {"shl", "shr"}) {
            Texts.good(name + " 1;", 1);
            Texts.bad(name + ";", 1, 3);
            Texts.bad(name + " 1.2;", 1, 5);
            Texts.bad(name + " -1;", 1, 4);
        }
    }

    /** ".. | instruction [ "then" location ]": only behind instructions, and only once. */
    @Test
    static void thenStandsBehindInstructionsOnly() {
        Texts.bad("at 0.0 then 1.1;", 1, 7);
        Texts.bad("start 0.0 then 1.1;", 1, 10);
        Texts.bad("word 5 then 1.1;", 1, 7);
        Texts.bad("then 1.1;", 1, 0);
        Texts.bad("in then 1.1 then 1.1;", 1, 12);
        Texts.bad("in then;", 1, 7);
        Texts.bad("in then in;", 1, 8);
    }

    /** ""word" [ "-" ] number": one sign at most, and only there. */
    @Test
    static void oneSignAtMost() {
        Texts.good("word -0;", 1);
        Texts.bad("word --5;", 1, 6);
        Texts.bad("word 5-;", 1, 6);
        Texts.bad("at -1.0;", 1, 3);
        Texts.bad("at 1.-0;", 1, 5);
        Texts.bad("in then -0.0;", 1, 8);
        Texts.bad("word .5;", 1, 5);
        Texts.bad("word;", 1, 4);
        Texts.bad("word -;", 1, 6);
        Texts.bad("word in;", 1, 5);
    }

    // ---- the place

    /** "The assembler has a place, which is the location 0.0 at the beginning": of each text anew. */
    @Test
    static void thePlaceIs00AtTheBeginningOfEachText() {
        DelayLineStore x = new DelayLineStore();
        Texts.assemble(x, "at 3.7; word 1;");
        Texts.assemble(x, "word 2;");
        Check.due("0.0", x.readWord(0, 0), 2);
        Check.due("3.8", x.readWord(3, 8), 0);
        Texts.put(x, "at 4.4; word 1; ?");
        Check.badArgument("assemble()", () -> x.assemble());
        Texts.assemble(x, "word 3;");
        Check.due("0.0 after an error", x.readWord(0, 0), 3);
    }

    /** ".. the next cycle (cycle 0 after cycle 31)": in the same tank, also in the last one. */
    @Test
    static void thePlaceAfterCycle31() {
        DelayLineStore x = Texts.computerWith("at 0.31; word 1; word 2; at 7.30; word 3; word 4; word 5;");
        Check.due("0.31", x.readWord(0, 31), 1);
        Check.due("0.0", x.readWord(0, 0), 2);
        Check.due("1.0", x.readWord(1, 0), 0);
        Check.due("7.30", x.readWord(7, 30), 3);
        Check.due("7.31", x.readWord(7, 31), 4);
        Check.due("7.0", x.readWord(7, 0), 5);
    }

    /** "Without "then" they are those of the place after it": 7.0 after 7.31. */
    @Test
    static void theNextFieldsOfCycle31() {
        DelayLineStore x = Texts.computerWith("at 7.31; stop; at 0.31; stop;");
        Check.due("7.31", x.readWord(7, 31), Texts.word(0, 0, 0, 7, 0));
        Check.due("0.31", x.readWord(0, 31), Texts.word(0, 0, 0, 0, 0));
    }

    /** "The next fields .. are those of the location behind "then"": 0.0 and 7.31, and the place goes on. */
    @Test
    static void theNextFieldsBehindThen() {
        DelayLineStore x = Texts.computerWith("at 2.2; in then 0.0; in then 7.31; in;");
        Check.due("2.2", x.readWord(2, 2), 13);
        Check.due("2.3", x.readWord(2, 3), Texts.word(13, 0, 0, 7, 31));
        Check.due("2.4", x.readWord(2, 4), Texts.word(13, 0, 0, 2, 5));
    }

    /** "Operand fields that are not given are 0." */
    @Test
    static void operandFieldsThatAreNotGiven() {
        DelayLineStore x = Texts.computerWith("load 7.31; stop; in; out; shl 31; shr 31; shl 0;");
        Check.due("stop", x.readWord(0, 1) & 0xFF0, 0);
        Check.due("in", x.readWord(0, 2) & 0xFF0, 0);
        Check.due("out", x.readWord(0, 3) & 0xFF0, 0);
        Check.due("shl 31: the operand tank", x.readWord(0, 4) & 0x70, 0);
        Check.due("shl 31: the operand cycle", x.readWord(0, 4) >> 7 & 31, 31);
        Check.due("shr 31: the operand tank", x.readWord(0, 5) & 0x70, 0);
        Check.due("shl 0", x.readWord(0, 6) & 0xFF0, 0);
    }

    /** ""start" makes the computer ready .. (the last one, if there are several)". */
    @Test
    static void theLastStartCounts() {
        DelayLineStore x = new DelayLineStore();
        Check.due("assemble()", Texts.assemble(x, "start 1.1; in; start 7.31; in; start 0.0;"), 2);
        Check.due("state()", x.state(), 0);
        Check.due("location()", x.location(), 0);
        Texts.assemble(x, "start 0.0; start 7.31;");
        Check.due("location()", x.location(), 255);
    }

    /** ".. when the whole program has been assembled": not with an error behind it, and its words are there. */
    @Test
    static void aStartCountsAtTheEndOnly() {
        DelayLineStore x = new DelayLineStore();
        Texts.put(x, "start 1.1; in; start 7.31; in");
        Check.badArgument("assemble()", () -> x.assemble());
        Check.due("state()", x.state(), 1);
        Check.due("location()", x.location(), 0);
        Texts.assemble(x, "start 0.0; stop then 3.3;");
        Check.due("run(1)", x.run(1), 1);
        Check.due("location()", x.location(), 3 * 32 + 3);
    }

    /** A text without "start" leaves state and location, also after one with it. */
    @Test
    static void aTextWithoutStart() {
        DelayLineStore x = Texts.computerWith("start 5.6; at 5.6; stop then 5.8;");
        x.run(1);
        Texts.assemble(x, "word 1;");
        Check.due("state()", x.state(), 1);
        Check.due("location()", x.location(), 5 * 32 + 8);
    }

    /** "at" and "start" write nothing and may name a place that has been written. */
    @Test
    static void atAndStartWriteNothing() {
        DelayLineStore x = new DelayLineStore();
        Check.due("assemble()", Texts.assemble(x, "word 7; at 0.0; start 0.0; at 0.0; at 7.31;"), 1);
        Check.due("0.0", x.readWord(0, 0), 7);
    }

    // ---- errors

    /** "The first error from the left is reported": whatever its code. */
    @Test
    static void theFirstErrorFromTheLeft() {
        Texts.bad("at 8.99;;", 2, 3);
        Texts.bad("at 7.99;;", 2, 5);
        Texts.bad("at 7,99;;", 1, 4);
        Texts.bad("word 1; at 0.0; shl 99;", 3, 16);
        Texts.bad("shl 99; at 0.0; shl 1;", 2, 4);
        Texts.bad("word 1; at 0.0; word", 3, 16);
        Texts.bad("word 999999", 2, 5);
        Texts.bad("load 1.2 then 8.1 ?", 2, 14);
    }

    /** "Of several at the same position, the one with the lowest code": a long run is out of range as well. */
    @Test
    static void theLowestCodeOfALongRun() {
        Texts.bad("word 9999999;", 1, 5);
        Texts.bad("at 9999999.0;", 1, 3);
        Texts.bad("shl 9999999;", 1, 4);
    }

    /** "Of several at the same position, ..": a "word" that cannot stand there, at a place that is written. */
    @Test
    static void theLowestCodeOfAWordThatCannotStandThere() {
        Texts.bad("word 1; at 0.0 word 2;", 1, 15);
        Texts.bad("word 1; at 0.0 in;", 1, 15);
        Texts.bad("word 1; at 0.0; in in;", 3, 16);
        Texts.bad("in 9;", 1, 3);
    }

    /** "Code 2: a number is out of range: a tank 0 to 7". */
    @Test
    static void tanksOutOfRange() {
        Texts.good("at 7.0; start 7.0; load 7.0 then 7.0;", 1);
        Texts.good("at 0.0; start 0.0; load 0.0 then 0.0;", 1);
        Texts.bad("at 8.0;", 2, 3);
        Texts.bad("start 8.0;", 2, 6);
        Texts.bad("load 8.0;", 2, 5);
        Texts.bad("count 999999.0;", 2, 6);
        Texts.bad("load 7.0 then 8.0;", 2, 14);
        Texts.bad("out then 8.0;", 2, 9);
    }

    /** "Code 2: .. a cycle 0 to 31". */
    @Test
    static void cyclesOutOfRange() {
        Texts.good("at 0.31; start 0.31; load 0.31 then 0.31;", 1);
        Texts.bad("at 0.32;", 2, 5);
        Texts.bad("start 0.32;", 2, 8);
        Texts.bad("load 0.32;", 2, 7);
        Texts.bad("count 0.999999;", 2, 8);
        Texts.bad("load 0.31 then 0.32;", 2, 17);
        Texts.bad("out then 0.32;", 2, 11);
    }

    /** "Code 2: .. a shift 0 to 31". */
    @Test
    static void shiftsOutOfRange() {
        Texts.good("shl 31; shr 31; shl 0; shr 0;", 4);
        Texts.bad("shl 32;", 2, 4);
        Texts.bad("shr 32;", 2, 4);
        Texts.bad("shr 999999;", 2, 4);
    }

    /** "Code 2: .. a word from -524288 to 524287 (at the number)". */
    @Test
    static void wordsOutOfRange() {
        Texts.good("word 524287; word -524288; word - 524288;", 3);
        Texts.bad("word 524288;", 2, 5);
        Texts.bad("word 999999;", 2, 5);
        Texts.bad("word -524289;", 2, 6);
        Texts.bad("word -999999;", 2, 6);
        Texts.bad("word -\n524289;", 2, 7);
    }

    /** "Code 3: the first token of a "word" statement or of an instruction whose place has been written before". */
    @Test
    static void everyStatementThatWritesATwiceWrittenPlace() {
        Texts.bad("in; at 0.0; word 1;", 3, 12);
        for (String name : WITH_LOCATION) {
            Texts.bad("in; at 0.0; " + name + " 1.2;", 3, 12);
            Texts.bad(name + " 1.2; at 0.0; in;", 3, name.length() + 14);
        }
        for (String name : WITHOUT_OPERAND) {
            Texts.bad("in; at 0.0; " + name + ";", 3, 12);
            Texts.bad(name + "; at 0.0; in;", 3, name.length() + 10);
        }
        Texts.bad("in; at 0.0; shl 1;", 3, 12);
        Texts.bad("in; at 0.0; shr 1;", 3, 12);
        Texts.bad("word 1; at 0.0; in;", 3, 16);
    }

    /** "Written before in this text": with a 0 too, and where the place has come round to. */
    @Test
    static void aPlaceThatHasComeRound() {
        Texts.bad("word 0; at 0.0; word 0;", 3, 16);
        Texts.bad("word 5; at 0.31; in; in;", 3, 21);
        Texts.bad("in;".repeat(33), 3, 96);
        Texts.good("at 1.5;" + "in;".repeat(32), 32);
        Texts.bad("at 7.31; in; at 0.0; in; at 7.31; in;", 3, 34);
    }

    /** "In this text": what an earlier text wrote, or a text with an error, does not count. */
    @Test
    static void placesOfEarlierTextsDoNotCount() {
        DelayLineStore x = new DelayLineStore();
        Check.due("assemble()", Texts.assemble(x, "word 1; word 2;"), 2);
        Check.due("assemble() of the same places", Texts.assemble(x, "word 3; word 4;"), 2);
        Texts.put(x, "word 5; word 6; ?");
        Check.badArgument("assemble()", () -> x.assemble());
        Check.due("assemble() after an error", Texts.assemble(x, "word 7; word 8;"), 2);
        Check.due("0.1", x.readWord(0, 1), 8);
    }
}

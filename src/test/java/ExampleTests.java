/** The four examples of the document as they stand. */
final class ExampleTests {
    private ExampleTests() {
    }

    @Test
    static void example1() {
        DelayLineStore x = new DelayLineStore();
        Check.due("append", x.append(1937006962, 1948266542, 809200751, 1633951793, 775102580), 20);
        Check.due("append", x.append(1751477792, 808334651, 1635000368, 775240563, 1953460283), 40);
        Check.due("append", x.append(1635000369, 775109495, 1869767712, 926621728, 538976288), 60);
        Check.due("truncate(54)", x.truncate(54), 54);
        Check.due("assemble()", x.assemble(), 3);
        Check.due("format(0, 0)", x.format(0, 0), 17);
        Check.due("idealNextCycle(0, 0)", x.idealNextCycle(0, 0), 4);
        Check.due("pathTime(0, 0, 5)", x.pathTime(0, 0, 5), 6);
        Check.due("run(10)", x.run(10), 2);
        Check.due("time()", x.time(), 6);
        Check.due("accumulator()", x.accumulator(), 7);
        Check.due("waited()", x.waited(), 3);
    }

    @Test
    static void example2() {
        DelayLineStore x = new DelayLineStore();
        Check.due("append", x.append(2003792484, 540097377, 1948266542, 809202548, 1869626144), 20);
        Check.due("truncate(19)", x.truncate(19), 19);
        Check.badArgument("assemble()", () -> x.assemble());
        Check.due("errorCode()", x.errorCode(), 3);
        Check.due("errorPosition()", x.errorPosition(), 14);
        Check.due("readWord(0, 0)", x.readWord(0, 0), 0);
    }

    @Test
    static void example3() {
        DelayLineStore x = new DelayLineStore();
        Check.due("writeWord(2, 3, 7)", x.writeWord(2, 3, 7), 0);
        Check.due("setFixedPeriod(1003000)", x.setFixedPeriod(1003000), 1000000);
        Check.due("mismatch(2)", x.mismatch(2), -1920000);
        Check.due("leastSafeTemperature()", x.leastSafeTemperature(), 487);
        Check.due("unsafeAfter()", x.unsafeAfter(), 0);
        Check.due("idle(32)", x.idle(32), 32);
        Check.due("readWord(2, 2)", x.readWord(2, 2), -262144);
        Check.due("readWord(2, 3)", x.readWord(2, 3), 1);
        Check.due("slips(2)", x.slips(2), 2);
    }

    @Test
    static void example4() {
        DelayLineStore x = new DelayLineStore();
        Check.due("writeWord(0, 0, 13)", x.writeWord(0, 0, 13), 0);
        x.start(0, 0);
        Check.due("run(3)", x.run(3), 0);
        Check.due("state()", x.state(), 2);
        Check.due("time()", x.time(), 1);
        Check.due("offerInput(5)", x.offerInput(5), 1);
        Check.due("predictTime(1)", x.predictTime(1), 33);
        Check.due("run(1)", x.run(1), 1);
        Check.due("accumulator()", x.accumulator(), 5);
        Check.thrown("takeOutput()", () -> x.takeOutput(), java.util.NoSuchElementException.class);
    }
}

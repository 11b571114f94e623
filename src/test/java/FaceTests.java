import java.io.IOException;
import java.lang.reflect.Constructor;
import java.lang.reflect.Field;
import java.lang.reflect.Method;
import java.lang.reflect.Modifier;
import java.nio.file.Files;
import java.nio.file.Path;
import java.util.ArrayList;
import java.util.Arrays;
import java.util.List;
import java.util.Set;
import java.util.TreeSet;

/** The public face, a new object, and what can be seen of LANGUAGE.md from outside. */
final class FaceTests {
    static String sourceFile = "src/main/java/DelayLineStore.java";

    private static final String[] FACE = {
        "int append(int,int,int,int,int) IllegalStateException",
        "int truncate(int) IndexOutOfBoundsException",
        "int assemble() IllegalArgumentException",
        "int errorCode()",
        "int errorPosition()",
        "int readWord(int,int) IndexOutOfBoundsException",
        "int writeWord(int,int,int) IndexOutOfBoundsException IllegalArgumentException",
        "int clearTank(int) IndexOutOfBoundsException",
        "void swapTanks(int,int) IndexOutOfBoundsException",
        "int bitCount(int) IndexOutOfBoundsException",
        "int slips(int) IndexOutOfBoundsException",
        "int dropouts()",
        "int setTemperature(int,int) IndexOutOfBoundsException IllegalArgumentException",
        "int temperature(int) IndexOutOfBoundsException",
        "int setOven(int) IllegalArgumentException",
        "int setPilotTemperature(int) IllegalArgumentException",
        "boolean setPilot(boolean)",
        "int setFixedPeriod(int) IllegalArgumentException",
        "int period()",
        "int mismatch(int) IndexOutOfBoundsException",
        "int leastSafeTemperature()",
        "int greatestSafeTemperature()",
        "int unsafeAfter()",
        "void start(int,int) IndexOutOfBoundsException",
        "int run(int) IllegalArgumentException IllegalStateException",
        "int idle(int) IllegalArgumentException",
        "int time()",
        "int state()",
        "int accumulator()",
        "boolean hasOverflow()",
        "int location()",
        "int offerInput(int) IllegalArgumentException IllegalStateException",
        "int takeOutput() NoSuchElementException",
        "int outputLength()",
        "int executed()",
        "int executedAt(int,int) IndexOutOfBoundsException",
        "int waited()",
        "int predictTime(int) IllegalArgumentException IllegalStateException",
        "int idealNextCycle(int,int) IndexOutOfBoundsException",
        "int pathTime(int,int,int) IndexOutOfBoundsException IllegalArgumentException",
        "int bestFreeCycle(int,int,int) IndexOutOfBoundsException",
        "int moveNext(int,int,int) IndexOutOfBoundsException IllegalStateException",
        "int format(int,int) IndexOutOfBoundsException",
        "int formattedByte(int) IndexOutOfBoundsException",
        "void save(int) IndexOutOfBoundsException",
        "void restore(int) IndexOutOfBoundsException IllegalStateException",
    };

    private FaceTests() {
    }

    @Test
    static void theMethodsAreThoseOfTheDocument() {
        Set<String> found = new TreeSet<>();
        for (Method method : DelayLineStore.class.getDeclaredMethods()) {
            if (!Modifier.isPrivate(method.getModifiers())) {
                Check.due(method.getName() + " is public", Modifier.isPublic(method.getModifiers()), true);
                Check.due(method.getName() + " is static", Modifier.isStatic(method.getModifiers()), false);
                found.add(signature(method));
            }
        }
        Check.due("the face", found.toString(), new TreeSet<>(Arrays.asList(FACE)).toString());
    }

    private static String signature(Method method) {
        List<String> parameters = new ArrayList<>();
        for (Class<?> type : method.getParameterTypes()) {
            parameters.add(type.getSimpleName());
        }
        StringBuilder text = new StringBuilder();
        text.append(method.getReturnType().getSimpleName()).append(' ').append(method.getName());
        text.append('(').append(String.join(",", parameters)).append(')');
        for (Class<?> type : method.getExceptionTypes()) {
            text.append(' ').append(type.getSimpleName());
        }
        return text.toString();
    }

    @Test
    static void theClassAndItsConstantAreThoseOfTheDocument() {
        Check.due("NONE", DelayLineStore.NONE, -1);
        int modifiers = DelayLineStore.class.getModifiers();
        Check.due("public final", Modifier.isPublic(modifiers) && Modifier.isFinal(modifiers), true);
        for (Field field : DelayLineStore.class.getDeclaredFields()) {
            boolean isPrivate = Modifier.isPrivate(field.getModifiers());
            Check.due(field.getName() + " is private", isPrivate, !field.getName().equals("NONE"));
        }
        Constructor<?>[] constructors = DelayLineStore.class.getDeclaredConstructors();
        Check.due("constructors", constructors.length, 1);
        Check.due("its parameters", constructors[0].getParameterCount(), 0);
    }

    @Test
    static void noPrivateMethodBearsTheNameOfAPublicOne() {
        Set<String> names = new TreeSet<>();
        for (String line : FACE) {
            names.add(line.substring(line.indexOf(' ') + 1, line.indexOf('(')));
        }
        for (Class<?> inside : DelayLineStore.class.getDeclaredClasses()) {
            Check.due(inside.getName() + " is static", Modifier.isStatic(inside.getModifiers()), true);
            Check.due(inside.getName() + " is public", Modifier.isPublic(inside.getModifiers()), false);
            for (Method method : inside.getDeclaredMethods()) {
                Check.due("a name of the face: " + method, names.contains(method.getName()), false);
            }
        }
        for (Method method : DelayLineStore.class.getDeclaredMethods()) {
            boolean taken = Modifier.isPrivate(method.getModifiers()) && names.contains(method.getName());
            Check.due("a name of the face: " + method, taken, false);
        }
    }

    @Test
    static void theSourceKeepsToTheLanguage() throws IOException {
        String source = Files.readString(Path.of(sourceFile));
        String[] barred = {
            "->", "::", "catch", "finally", "synchronized", "assert ", "Exact(", "instanceof", "Thread",
            "System.nano", "System.current", "Random", "var ", "static {", "getMessage", "goto",
            "package ", "Object", "String[]", "hashCode", "ordinal",
        };
        for (String word : barred) {
            Check.due("the source holds '" + word + "'", source.contains(word), false);
        }
        for (String line : source.split("\n")) {
            if (line.startsWith("import")) {
                Check.due("import", line, "import java.util.NoSuchElementException;");
            }
        }
        for (int i = 0; i < source.length(); i++) {
            if (source.charAt(i) > 126) {
                Check.fault("a sign above 126 at offset " + i);
            }
        }
    }

    @Test
    static void promise01NewObject() {
        DelayLineStore x = new DelayLineStore();
        long sum = x.time() + x.accumulator() + x.location() + x.outputLength() + x.executed() + x.waited();
        Check.due("time, accumulator, location, output, executed and waited", sum, 0);
        Check.due("state()", x.state(), 1);
        Check.due("hasOverflow()", x.hasOverflow(), false);
        Check.due("dropouts()", x.dropouts(), 0);
        for (int tank = 0; tank < 8; tank++) {
            Check.due("bitCount", x.bitCount(tank), 0);
            Check.due("slips", x.slips(tank), 0);
            Check.due("temperature", x.temperature(tank), 400);
            Check.due("mismatch", x.mismatch(tank), 0);
            Check.due("executedAt", x.executedAt(tank, 31), 0);
        }
        Check.due("period()", x.period(), 1000000);
        Check.due("setOven(400)", x.setOven(400), 400);
        Check.due("setPilotTemperature(400)", x.setPilotTemperature(400), 400);
        Check.due("setPilot(false)", x.setPilot(false), false);
        Check.due("setFixedPeriod(1000000)", x.setFixedPeriod(1000000), 1000000);
        Check.outOfBounds("truncate(1) of an empty buffer", () -> x.truncate(1));
        Check.due("truncate(0)", x.truncate(0), 0);
        Check.outOfBounds("formattedByte(0)", () -> x.formattedByte(0));
        Check.badState("restore(0)", () -> x.restore(0));
        Check.badState("restore(1)", () -> x.restore(1));
        Check.due("offerInput(1)", x.offerInput(1), 1);
    }

    @Test
    static void promise01ObjectsAreApart() {
        DelayLineStore x = new DelayLineStore();
        DelayLineStore y = new DelayLineStore();
        x.writeWord(0, 0, 5);
        x.idle(7);
        x.setOven(900);
        Check.due("readWord of the other", y.readWord(0, 0), 0);
        Check.due("time of the other", y.time(), 0);
        Check.due("oven of the other", y.setOven(1), 400);
    }
}

import java.io.ByteArrayOutputStream;
import java.io.IOException;
import java.io.PrintStream;
import java.lang.reflect.InvocationTargetException;
import java.lang.reflect.Method;
import java.nio.file.Files;
import java.nio.file.Path;
import java.util.ArrayList;
import java.util.List;
import java.util.regex.Matcher;
import java.util.regex.Pattern;

/** That README.md is true: its calls answer what stands behind them, and the example prints what it says. */
final class ReadmeTests {
    private static final Path README = Path.of("README.md");
    private static final String NEW_OBJECT = "DelayLineStore x = new DelayLineStore();";
    private static final Pattern CALL = Pattern.compile("x\\.(\\w+)\\((.*?)\\);(?: *// (throws \\w+|-?\\w+).*)?");
    private static final int CALLS_AT_LEAST = 40;

    private ReadmeTests() {
    }

    @Test
    static void theCallsAnswerWhatStandsBehindThem() {
        int calls = 0;
        for (String block : blocks("java")) {
            DelayLineStore x = null;
            for (String line : block.split("\n")) {
                Matcher call = CALL.matcher(line);
                if (line.equals(NEW_OBJECT)) {
                    x = new DelayLineStore();
                } else if (x != null && call.matches()) {
                    String due = call.group(3) == null ? "null" : call.group(3);
                    Check.due(line, answer(x, call.group(1), call.group(2)), due);
                    calls++;
                } else {
                    Check.fault("no call of README.md: " + line);
                }
            }
        }
        if (calls < CALLS_AT_LEAST) {
            Check.fault("only " + calls + " calls found in README.md");
        }
    }

    @Test
    static void theExamplePrintsWhatStandsThere() {
        List<String> outputs = blocks("text");
        Check.due("outputs in README.md", outputs.size(), 1);
        PrintStream usual = System.out;
        ByteArrayOutputStream printed = new ByteArrayOutputStream();
        System.setOut(new PrintStream(printed, true));
        try {
            SumOfNumbers.main(new String[0]);
        } finally {
            System.setOut(usual);
        }
        String output = printed.toString().replace(System.lineSeparator(), "\n");
        for (String due : outputs) {
            Check.due("SumOfNumbers", output, due);
        }
    }

    @Test
    static void everyTestClassIsNamed() {
        String readme = readme();
        for (Class<?> tests : AllTests.classes()) {
            if (!readme.contains("| `" + tests.getName() + "` |")) {
                Check.fault("README.md does not name " + tests.getName());
            }
        }
    }

    private static String answer(DelayLineStore x, String name, String list) {
        String[] texts = list.isEmpty() ? new String[0] : list.split(", ");
        for (Method method : DelayLineStore.class.getDeclaredMethods()) {
            if (method.getName().equals(name) && method.getParameterCount() == texts.length) {
                return answer(x, method, texts);
            }
        }
        return "no method";
    }

    private static String answer(DelayLineStore x, Method method, String[] texts) {
        Object[] arguments = new Object[texts.length];
        for (int i = 0; i < texts.length; i++) {
            boolean flag = method.getParameterTypes()[i] == boolean.class;
            arguments[i] = flag ? (Object) Boolean.valueOf(texts[i]) : (Object) Integer.valueOf(texts[i]);
        }
        try {
            return String.valueOf(method.invoke(x, arguments));
        } catch (InvocationTargetException e) {
            return "throws " + e.getCause().getClass().getSimpleName();
        } catch (IllegalAccessException e) {
            return "can't be called";
        }
    }

    private static List<String> blocks(String kind) {
        List<String> blocks = new ArrayList<>();
        Matcher fence = Pattern.compile("^```" + kind + "\n(.*?)^```$", Pattern.DOTALL | Pattern.MULTILINE)
                .matcher(readme());
        while (fence.find()) {
            blocks.add(fence.group(1));
        }
        return blocks;
    }

    private static String readme() {
        try {
            return Files.readString(README);
        } catch (IOException e) {
            Check.fault("README.md can't be read");
            return "";
        }
    }
}

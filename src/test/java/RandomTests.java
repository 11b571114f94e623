import java.lang.reflect.InvocationTargetException;
import java.lang.reflect.Method;
import java.util.Arrays;
import java.util.Comparator;
import java.util.HashMap;
import java.util.Map;
import java.util.Random;

/** Long runs of calls, each made on the class and on the reference, with seeds that are fixed. */
final class RandomTests {
    private static final String[] WORDS = {
        "at", "start", "word", "then", "stop", "load", "store", "add", "sub", "and", "xor", "mul",
        "shl", "shr", "jneg", "jzero", "jover", "in", "out", "count", "x", "loads", "At",
    };
    private static final Method[] CALLS = sortedCalls();
    private static final Map<String, Method> REFERENCE_CALLS = referenceCalls();

    private RandomTests() {
    }

    private static Method[] sortedCalls() {
        Method[] calls = Arrays.stream(DelayLineStore.class.getDeclaredMethods())
                .filter(m -> java.lang.reflect.Modifier.isPublic(m.getModifiers())).toArray(Method[]::new);
        Arrays.sort(calls, Comparator.comparing(Method::getName));
        return calls;
    }

    private static Map<String, Method> referenceCalls() {
        Map<String, Method> calls = new HashMap<>();
        for (Method call : ReferenceStore.class.getDeclaredMethods()) {
            if (java.lang.reflect.Modifier.isPublic(call.getModifiers())) {
                calls.put(call.getName(), call);
            }
        }
        return calls;
    }

    private static String answer(Method call, Object target, Object[] arguments) {
        try {
            return String.valueOf(call.invoke(target, arguments));
        } catch (InvocationTargetException e) {
            return "throws." + e.getCause().getClass().getName();
        } catch (IllegalAccessException e) {
            return "can't be called";
        }
    }

    /** A pair of objects under the same calls. */
    private static final class Pair {
        final DelayLineStore x = new DelayLineStore();
        final ReferenceStore y = new ReferenceStore();
        final StringBuilder log = new StringBuilder();
        int calls;
        boolean broken;

        void call(String name, Object... arguments) {
            for (Method method : CALLS) {
                if (method.getName().equals(name)) {
                    call(method, arguments);
                }
            }
        }

        void call(Method method, Object[] arguments) {
            if (broken || calls >= 512) {
                return;
            }
            calls++;
            String got = answer(method, x, arguments);
            String due = answer(REFERENCE_CALLS.get(method.getName()), y, arguments);
            log.append(method.getName()).append(Arrays.toString(arguments)).append(' ').append(due).append("; ");
            if (!got.equals(due)) {
                broken = true;
                Check.fault(got + " instead of the last answer in " + log);
            }
        }

        void text(String text) {
            for (int from = 0; from < text.length(); from += 20) {
                call("append", Texts.fourBytes(text, from), Texts.fourBytes(text, from + 4),
                        Texts.fourBytes(text, from + 8), Texts.fourBytes(text, from + 12),
                        Texts.fourBytes(text, from + 16));
            }
            call("truncate", text.length());
        }
    }

    private static int near(Random random, int least, int greatest) {
        switch (random.nextInt(40)) {
            case 0: return least - 1;
            case 1: return greatest + 1;
            case 2: return random.nextInt();
            case 3: return least;
            case 4: return greatest;
            default: return least + random.nextInt(greatest - least + 1);
        }
    }

    private static int randomWord(Random random) {
        switch (random.nextInt(6)) {
            case 0: return near(random, -3, 3);
            case 1: return near(random, -524288, 524287);
            case 2: return random.nextInt(2) == 0 ? 0 : 1 << random.nextInt(19);
            default: return random.nextInt(1048576) - 524288;
        }
    }

    private static Object[] randomArguments(Method method, Random random) {
        int tank = near(random, 0, 7);
        int cycle = near(random, 0, 31);
        switch (method.getName()) {
            case "append": return new Object[] {0x20200A20, 0x0A202020, 0x20202020, 0x20202020, random.nextInt()};
            case "truncate": return new Object[] {near(random, 0, 60)};
            case "writeWord": return new Object[] {tank, cycle, randomWord(random)};
            case "offerInput": return new Object[] {randomWord(random)};
            case "setTemperature":
                return new Object[] {tank, random.nextBoolean() ? near(random, 380, 420) : near(random, 0, 1000)};
            case "setOven": return new Object[] {random.nextBoolean() ? near(random, 390, 410) : near(random, 0, 1000)};
            case "setPilotTemperature":
                return new Object[] {random.nextBoolean() ? near(random, 390, 410) : near(random, 0, 1000)};
            case "setPilot": return new Object[] {random.nextBoolean()};
            case "setFixedPeriod":
                return new Object[] {random.nextInt(4) == 0 ? near(random, 900000, 1100000)
                        : near(random, 999500, 1000500)};
            case "run":
            case "predictTime": return new Object[] {random.nextInt(4) == 0 ? near(random, 1, 500) : near(random, 1, 9)};
            case "idle": return new Object[] {random.nextInt(4) == 0 ? near(random, 1, 3200) : near(random, 1, 70)};
            case "pathTime": return new Object[] {tank, cycle, near(random, 1, 200)};
            case "bestFreeCycle":
            case "moveNext": return new Object[] {tank, cycle, near(random, 0, 7)};
            case "swapTanks": return new Object[] {tank, near(random, 0, 7)};
            case "formattedByte": return new Object[] {near(random, 0, 20)};
            case "save":
            case "restore": return new Object[] {near(random, 0, 1)};
            default:
                Object[] places = {tank, cycle};
                return Arrays.copyOf(places, method.getParameterCount());
        }
    }

    private static String randomLocation(Random random) {
        return near(random, 0, 7) + "." + near(random, 0, 31);
    }

    private static String goodLocation(Random random) {
        return random.nextInt(8) + "." + random.nextInt(32);
    }

    private static String randomStatement(Random random, boolean good) {
        String place = good ? goodLocation(random) : randomLocation(random);
        String word = WORDS[random.nextInt(20)];
        String then = random.nextInt(3) == 0 ? " then " + (good ? goodLocation(random) : randomLocation(random)) : "";
        switch (word) {
            case "at":
            case "start": return word + " " + place;
            case "word": return word + (random.nextBoolean() ? " " : " - ") + random.nextInt(good ? 524288 : 700000);
            case "then":
            case "stop":
            case "in":
            case "out": return (word.equals("then") ? "in" : word) + then;
            case "shl":
            case "shr": return word + " " + random.nextInt(good ? 32 : 40) + then;
            default: return word + " " + place + then;
        }
    }

    private static String randomProgram(Random random) {
        boolean good = random.nextInt(3) > 0;
        StringBuilder text = new StringBuilder(random.nextBoolean() ? "start 0.0;" : "");
        int statements = random.nextInt(14);
        for (int i = 0; i < statements; i++) {
            text.append(randomStatement(random, good)).append(random.nextBoolean() ? ";" : " ;\n");
        }
        int changes = good ? 0 : random.nextInt(3);
        for (int i = 0; i < changes && text.length() > 0; i++) {
            int at = random.nextInt(text.length());
            switch (random.nextInt(4)) {
                case 0: text.deleteCharAt(at); break;
                case 1: text.insert(at, WORDS[random.nextInt(WORDS.length)]); break;
                case 2: text.insert(at, " ;.-01239\u00E9A?\n".charAt(random.nextInt(13))); break;
                default: text.insert(at, random.nextInt(2000000)); break;
            }
        }
        return text.substring(0, Math.min(text.length(), 580));
    }

    private static void oneRun(Random random) {
        Pair pair = new Pair();
        if (random.nextInt(4) > 0) {
            for (int tank = 0; tank < 2; tank++) {
                for (int cycle = 0; cycle < 32; cycle++) {
                    pair.call("writeWord", tank, cycle, randomWord(random) >> 20 == 0 ? randomInstruction(random) : 3);
                }
            }
            pair.call("start", 0, 0);
        }
        for (int i = 0; i < 448; i++) {
            if (random.nextInt(20) == 0) {
                pair.call("truncate", 0);
                pair.text(randomProgram(random));
                pair.call("assemble");
            } else if (random.nextInt(10) == 0) {
                pair.call("start", random.nextInt(8), random.nextInt(32));
                pair.call("run", 1 + random.nextInt(40));
            } else {
                Method method = CALLS[random.nextInt(CALLS.length)];
                pair.call(method, randomArguments(method, random));
            }
        }
    }

    /** An instruction that stays in the first two tanks most of the time. */
    private static int randomInstruction(Random random) {
        int opcode = random.nextInt(8) == 0 ? 0 : random.nextInt(16);
        int tanks = random.nextInt(4) == 0 ? 8 : 2;
        int word = opcode | random.nextInt(tanks) << 4 | random.nextInt(32) << 7
                | random.nextInt(tanks) << 12 | random.nextInt(32) << 15;
        return word >= 524288 ? word - 1048576 : word;
    }

    @Test
    static void randomRunsAnswerAsTheReferenceDoes() {
        Random random = new Random(1949);
        for (int run = 0; run < 400 && !Boolean.getBoolean("quick"); run++) {
            oneRun(random);
        }
    }

    @Test
    static void randomTextsAnswerAsTheReferenceDoes() {
        Random random = new Random(1951);
        for (int run = 0; run < 600; run++) {
            Pair pair = new Pair();
            for (int i = 0; i < 24; i++) {
                pair.text(randomProgram(random));
                pair.call("assemble");
                pair.call("errorCode");
                pair.call("errorPosition");
                pair.call("location");
                pair.call("readWord", 0, random.nextInt(10));
            }
        }
    }

    @Test
    static void twoOfTheSameAnswerTheSame() {
        for (int seed = 0; seed < 3; seed++) {
            Random random = new Random(seed);
            DelayLineStore x = new DelayLineStore();
            DelayLineStore y = new DelayLineStore();
            for (int i = 0; i < 512; i++) {
                Method method = CALLS[random.nextInt(CALLS.length)];
                Object[] arguments = randomArguments(method, random);
                Check.due(method.getName(), answer(method, x, arguments), answer(method, y, arguments));
            }
        }
    }
}

import java.util.ArrayList;
import java.util.List;

/** Collects what a test finds wrong, so that one test tells all its wrong answers. */
final class Check {
    interface Call {
        void make();
    }

    private static final List<String> faults = new ArrayList<>();

    private Check() {
    }

    static void due(String call, long got, long want) {
        if (got != want) {
            faults.add(call + " answered " + got + ", due is " + want);
        }
    }

    static void due(String call, boolean got, boolean want) {
        due(call, got ? 1 : 0, want ? 1 : 0);
    }

    static void due(String call, String got, String want) {
        if (!got.equals(want)) {
            faults.add(call + " answered \"" + got + "\", due is \"" + want + "\"");
        }
    }

    static void outOfBounds(String call, Call made) {
        thrown(call, made, IndexOutOfBoundsException.class);
    }

    static void badArgument(String call, Call made) {
        thrown(call, made, IllegalArgumentException.class);
    }

    static void badState(String call, Call made) {
        thrown(call, made, IllegalStateException.class);
    }

    /** The class must be the very one, for the machine's own exceptions are subclasses of the named ones. */
    static void thrown(String call, Call made, Class<?> want) {
        try {
            made.make();
        } catch (RuntimeException e) {
            if (e.getClass() != want) {
                faults.add(call + " threw " + e + ", due is " + want.getSimpleName());
            }
            return;
        }
        faults.add(call + " threw nothing, due is " + want.getSimpleName());
    }

    static void fault(String what) {
        faults.add(what);
    }

    static List<String> takeFaults() {
        List<String> taken = new ArrayList<>(faults);
        faults.clear();
        return taken;
    }
}

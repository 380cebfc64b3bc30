import java.util.ArrayList;
import java.util.List;
import java.util.function.Supplier;
import java.util.function.ToIntFunction;

/** Collects what the tests of one program find; each named test passes or fails as a whole. */
final class Checks {
    private final List<String> faults = new ArrayList<>();
    private int passed = 0;
    private int failed = 0;

    void test(String name, Runnable body) {
        faults.clear();
        try {
            body.run();
        } catch (RuntimeException thrown) {
            faults.add("threw " + thrown);
        }
        if (faults.isEmpty()) {
            passed++;
            return;
        }
        failed++;
        System.out.println("FAILED " + name);
        for (String fault : faults) {
            System.out.println("  " + fault);
        }
    }

    void due(String call, long got, long want) {
        if (got != want) {
            faults.add(call + " answered " + got + ", due is " + want);
        }
    }

    void fault(String told) {
        faults.add(told);
    }

    /**
     * A refused call answers the number, counts it once under its last digit, and changes nothing else.
     * Two objects are compared, as looking twice at one would take more than 512 calls.
     */
    void refused(Supplier<WhichOneAllKnow> made, int want, String call, ToIntFunction<WhichOneAllKnow> run) {
        WhichOneAllKnow with = made.get();
        WhichOneAllKnow without = made.get();
        due(call, run.applyAsInt(with), want);
        for (int number = 1; number <= 7; number++) {
            int more = number == -want % 10 ? 1 : 0;
            int counted = with.status(10 + number) - without.status(10 + number);
            due("after " + call + " status(" + (10 + number) + ") more", counted, more);
        }
        String before = State.of(without);
        String after = State.of(with);
        if (!after.equals(before)) {
            faults.add(call + " changed\n    " + before + " to\n    " + after);
        }
    }

    void close() {
        System.out.println(passed + " passed, " + failed + " failed");
        if (failed != 0) {
            System.exit(1);
        }
    }
}

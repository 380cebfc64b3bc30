import java.util.ArrayList;
import java.util.List;
import java.util.function.Supplier;
import java.util.function.ToIntFunction;

/** Collects what the tests of one program find; each named test passes or fails as a whole. */
final class Checks {
    /** A call on an object, with one number left open. */
    interface Open {
        int on(WhichOneAllKnow x, int n);
    }

    /** A call on an object, with all its numbers left open. */
    interface AllOpen {
        int on(WhichOneAllKnow x, int[] n);
    }

    private final List<String> faults = new ArrayList<>();
    private int passed = 0;
    private int failed = 0;

    void test(String name, Runnable body) {
        faults.clear();
        try {
            body.run();
        } catch (RuntimeException thrown) {
            faults.add("threw " + thrown);
        }
        if (faults.isEmpty()) {
            passed++;
            System.out.println("passed " + name);
            return;
        }
        failed++;
        System.out.println("FAILED " + name);
        for (String fault : faults.subList(0, Math.min(faults.size(), 12))) {
            System.out.println("  " + fault);
        }
    }

    /** A test of what the document says of a promise, in its own words; the case tells what of it is looked at. */
    void test(int promise, String sentence, String what, Runnable body) {
        test("promise " + promise + " '" + sentence + "': " + what, () -> {
            if (!Document.says(promise, sentence)) {
                fault("the document doesn't say so");
            }
            body.run();
        });
    }

    void due(String call, long got, long want) {
        if (got != want) {
            faults.add(call + " answered " + got + ", due is " + want);
        }
    }

    void same(String after, String got, String want) {
        if (!got.equals(want)) {
            faults.add("after " + after + " there is\n    " + got + "\n    due is\n    " + want);
        }
    }

    void fault(String told) {
        faults.add(told);
    }

    /** The numbers just outside of what may be, and the farthest. */
    static int[] outside(int least, int most) {
        return new int[] {least - 1, most + 1, Integer.MIN_VALUE, Integer.MAX_VALUE};
    }

    /** Nothing was refused so far. */
    void noneRefused(WhichOneAllKnow x) {
        for (int number = 11; number <= 17; number++) {
            due("status(" + number + ") of what was refused", x.status(number), 0);
        }
    }

    /**
     * A refused call answers the number, counts it once under its last digit, and changes nothing else, what
     * THE IMAGE has included. Two objects are compared, as looking twice at one would take more than 512 calls.
     */
    void refused(Supplier<WhichOneAllKnow> made, int want, String call, ToIntFunction<WhichOneAllKnow> run) {
        WhichOneAllKnow with = made.get();
        WhichOneAllKnow without = made.get();
        due(call, run.applyAsInt(with), want);
        for (int number = 1; number <= 7; number++) {
            int more = number == -want % 10 ? 1 : 0;
            int counted = with.status(10 + number) - without.status(10 + number);
            due("after " + call + " status(" + (10 + number) + ") more", counted, more);
        }
        same(call, State.of(with), State.of(without));
        due("restore() after " + call, with.restore(), without.restore());
        same(call + " and restore()", State.ofChurch(with), State.ofChurch(without));
    }

    /** The call is refused with each of the numbers; _ in its name stands for the number. */
    void refusedEach(Supplier<WhichOneAllKnow> made, int want, String call, Open run, int... numbers) {
        for (int n : numbers) {
            refused(made, want, call.replace("_", "" + n), x -> run.on(x, n));
        }
    }

    /**
     * Of several refusals that hold the first one comes. For each number of the call there are pairs: a value,
     * and what is refused by it, or 0; all of them are tried together. The answer is so much less than the refusal.
     */
    void order(Supplier<WhichOneAllKnow> made, int less, String call, AllOpen run, int[][]... pairs) {
        String before = State.of(made.get());
        int[] chosen = new int[pairs.length];
        boolean more = true;
        while (more) {
            int[] numbers = new int[pairs.length];
            int want = -99;
            StringBuilder told = new StringBuilder(call).append('(');
            for (int i = 0; i < pairs.length; i++) {
                int[] pair = pairs[i][chosen[i]];
                numbers[i] = pair[0];
                want = pair[1] != 0 ? Math.max(want, pair[1]) : want;
                told.append(i == 0 ? "" : ", ").append(pair[0]);
            }
            if (want != -99) {
                WhichOneAllKnow x = made.get();
                int counted = x.status(10 - want);
                due(told + ")", run.on(x, numbers), want - less);
                due("after " + told + ") status(" + (10 - want) + ")", x.status(10 - want), counted + 1);
                same(told + ")", State.of(x), before);
            }
            more = next(chosen, pairs);
        }
    }

    private static boolean next(int[] chosen, int[][][] pairs) {
        for (int i = 0; i < chosen.length; i++) {
            chosen[i]++;
            if (chosen[i] < pairs[i].length) {
                return true;
            }
            chosen[i] = 0;
        }
        return false;
    }

    void close() {
        System.out.println(passed + " passed, " + failed + " failed");
        if (failed != 0) {
            System.exit(1);
        }
    }
}

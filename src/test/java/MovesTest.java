/** Promises 38 to 42: MOVES, THE TRACE, THE IMAGE, status. */
public final class MovesTest {
    private static final int NONE = WhichOneAllKnow.NONE;
    private static final Checks CHECKS = new Checks();

    public static void main(String[] args) {
        CHECKS.test("promise 38: act, each KIND and MOVE", MovesTest::act);
        CHECKS.test("promise 38: act wraps", MovesTest::actWraps);
        CHECKS.test("promise 38: act of none", MovesTest::actOfNone);
        CHECKS.test("promise 39: trace", MovesTest::trace);
        CHECKS.test("promise 40: image", MovesTest::image);
        CHECKS.test("promise 41: restore", MovesTest::restore);
        CHECKS.test("promise 41: restore and SHELVES", MovesTest::restoreShelves);
        CHECKS.test("promise 41: restore refuses", MovesTest::restoreRefuses);
        CHECKS.test("promise 42: status", MovesTest::status);
        CHECKS.close();
    }

    /** For each KIND a VOICE whose number is 5 and whose a is 3. */
    private static WhichOneAllKnow sixth(int kind) {
        WhichOneAllKnow x = new WhichOneAllKnow();
        for (int v = 0; v < 5; v++) {
            x.voice(0, 9, v, 0, 0);
        }
        x.voice(kind, 3, 5, 0, 0);
        return x;
    }

    private static void act() {
        // x is 10, m is 5, k is 3; each row: breathes, sings, sits
        int[][] due = {
            {15, 30, 30 ^ 12},
            {18, 36, 36 ^ 15},
            {15, 90, 90 ^ 12},
            {18, 38, 38 ^ 15},
            {10, 20, -(20 ^ 7)},
            {15, 90, 90 ^ 12 ^ 5},
            {20, 28, -(28 ^ 14)},
        };
        for (int kind = 0; kind <= 6; kind++) {
            for (int move = 0; move <= 2; move++) {
                WhichOneAllKnow x = sixth(kind);
                CHECKS.due("act(5, " + move + ", 10) of KIND " + kind, x.act(5, move, 10), due[kind][move]);
            }
        }
    }

    private static void actWraps() {
        int max = Integer.MAX_VALUE;
        CHECKS.due("breathes(MAX)", sixth(0).act(5, 0, max), max + 5);
        CHECKS.due("sings(MAX)", sixth(0).act(5, 1, max), (max + 5) * 2);
        CHECKS.due("sings(MAX) of a JOINING", sixth(2).act(5, 1, max), (max + 5) * 2 * 3);
        CHECKS.due("sits(MIN)", sixth(0).act(5, 2, -max - 1), ((-max - 1 + 5) * 2) ^ (-max - 1 - 3 + 5));
    }

    private static void traced(WhichOneAllKnow x, int... due) {
        for (int i = 0; i < due.length; i++) {
            CHECKS.due("trace(" + i + ")", x.trace(i), due[i]);
        }
        CHECKS.due("trace(" + due.length + ")", x.trace(due.length), NONE);
        CHECKS.due("status(7)", x.status(7), due.length);
    }

    private static void actOfNone() {
        int[][] calls = {{6, 0}, {-1, 0}, {5, 3}, {5, -1}};
        for (int[] call : calls) {
            WhichOneAllKnow x = sixth(6);
            x.act(5, 2, 1);
            CHECKS.due("act(" + call[0] + ", " + call[1] + ", 7)", x.act(call[0], call[1], 7), 0);
            traced(x);
            for (int number = 11; number <= 17; number++) {
                CHECKS.due("status(" + number + ")", x.status(number), 0);
            }
        }
    }

    private static void trace() {
        int[][][] due = {
            {{10}, {11, 10}, {12, 11, 10, 10}},
            {{20, 10}, {11, 20, 10}, {12, 11, 20, 10, 20, 10}},
            {{10}, {30, 11, 10}, {12, 30, 11, 10, 10}},
            {{20, 10}, {40, 11, 20, 10}, {12, 40, 11, 20, 10, 20, 10}},
            {{51, 10}, {11, 51, 10}, {50, 12, 11, 51, 10, 51, 10}},
            {{10}, {30, 11, 10}, {60, 12, 30, 11, 10, 10}},
            {{70, 51, 10}, {71, 11, 70, 51, 10}, {50, 12, 71, 11, 70, 51, 10, 70, 51, 10}},
        };
        for (int kind = 0; kind <= 6; kind++) {
            WhichOneAllKnow x = sixth(kind);
            traced(x);
            for (int move = 0; move <= 2; move++) {
                x.act(5, move, 10);
                traced(x, due[kind][move]);
            }
            CHECKS.due("trace(-1)", x.trace(-1), NONE);
            CHECKS.due("trace(20)", x.trace(20), NONE);
            CHECKS.due("trace(MAX)", x.trace(Integer.MAX_VALUE), NONE);
        }
    }

    private static WhichOneAllKnow singing() {
        WhichOneAllKnow x = State.read("tune 3;tune 5;voice 1 4 9 2 10;voice 6 1 11 3 8;knows 0 1;wait 7");
        x.seed(99);
        x.hymn(1, 0, 4);
        return x;
    }

    private static void image() {
        CHECKS.due("image() of nobody", new WhichOneAllKnow().image(), 0);
        WhichOneAllKnow x = singing();
        String before = State.of(x);
        CHECKS.due("image()", x.image(), 2);
        if (!State.of(x).equals(before)) {
            CHECKS.fault("image() changed something");
        }
        x.voice(0, 0, 0, 0, 0);
        CHECKS.due("image() anew", x.image(), 3);
        x.voice(0, 0, 1, 0, 0);
        CHECKS.due("restore() of the latest", x.restore(), 3);
    }

    private static void restore() {
        WhichOneAllKnow x = singing();
        x.image();
        String before = State.of(x);
        for (int time = 0; time < 2; time++) {
            x.tune(1);
            x.voice(3, 1, 0, 1, 1);
            x.knows(1, 0, true);
            x.knows(0, 1, false);
            x.move(0, 23);
            x.ask(1);
            x.years(2);
            CHECKS.due("restore()", x.restore(), 2);
            if (!State.of(x).equals(before)) {
                CHECKS.fault("restore() left " + State.of(x) + "\n    due is " + before);
            }
        }
    }

    private static void restoreShelves() {
        WhichOneAllKnow x = singing();
        x.show(0, 1);
        x.image();
        x.voice(0, 0, 0, 0, 0);
        x.row(0, 1, 2);
        x.set(0, 1, 5);
        x.show(1, 2);
        x.show(2, 1);
        x.show(3, 0);
        x.row(7, 2, 0);
        State.text(x, 6, "wait x");
        x.church(6);
        x.act(1, 0, 4);
        x.restore();
        int[] held = {101, NONE, 1, 0, NONE, NONE, 100, 102};
        for (int s = 0; s < 8; s++) {
            CHECKS.due("holds(" + s + ")", x.holds(s), held[s]);
        }
        CHECKS.due("element(0, 1)", x.element(0, 1), 5);
        CHECKS.due("fault()", x.fault(), 5);
        CHECKS.due("status(16)", x.status(16), 1);
        CHECKS.due("status(7)", x.status(7), 3);
        CHECKS.due("trace(0)", x.trace(0), 70);
        x.voice(0, 0, 0, 0, 0);
        CHECKS.due("holds(1), with a new VOICE 2", x.holds(1), NONE);
    }

    private static void restoreRefuses() {
        CHECKS.refused(MovesTest::singing, -6, "restore()", WhichOneAllKnow::restore);
        WhichOneAllKnow x = new WhichOneAllKnow();
        x.image();
        x.tune(1);
        CHECKS.due("restore() of an empty IMAGE", x.restore(), 0);
        CHECKS.due("status(1)", x.status(1), 0);
    }

    private static void status() {
        WhichOneAllKnow x = singing();
        x.knows(1, 0, true);
        x.act(1, 2, 1);
        // the LEADING alone sang RIGHT: the DRAGGER at 11 is not NEAR 9
        int[] due = {2, 2, 1, 7, 2, 22, 99, 10};
        for (int what = 0; what < due.length; what++) {
            CHECKS.due("status(" + what + ")", x.status(what), due[what]);
        }
        int[] none = {-1, 8, 9, 10, 18, 99, Integer.MIN_VALUE, Integer.MAX_VALUE};
        for (int what : none) {
            CHECKS.due("status(" + what + ")", x.status(what), NONE);
        }
        for (int number = 11; number <= 17; number++) {
            CHECKS.due("status(" + number + ")", x.status(number), 0);
        }
        // so many refusals of each number, told in one, two or three figures
        x.knows(9, 9, true);
        x.verse(9, 9, 9);
        x.helps(9, 9, 9, 9);
        x.show(0, 0);
        x.set(0, 0, 0);
        x.judge(0, 0);
        x.set(1, 0, 0);
        x.row(2, 0, -1);
        x.highOf(9);
        x.verse(0, 0, 9);
        x.two(-1);
        x.helps(0, 0, 9, 9);
        x.row(2, 0, 200);
        int[] counts = {3, 2, 1, 1, 2, 2, 1};
        for (int i = 0; i < counts.length; i++) {
            CHECKS.due("status(" + (11 + i) + ")", x.status(11 + i), counts[i]);
        }
    }
}

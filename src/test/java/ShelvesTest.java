/** Promises 1 to 8: a new object, and what stands on the SHELVES. */
public final class ShelvesTest {
    private static final int NONE = WhichOneAllKnow.NONE;
    private static final Checks CHECKS = new Checks();

    public static void main(String[] args) {
        CHECKS.test("promise 1: a new object is empty", ShelvesTest::newObject);
        CHECKS.test("promise 2: row holds a new ROW", ShelvesTest::row);
        CHECKS.test("promise 2: row refuses", ShelvesTest::rowRefuses);
        CHECKS.test("promise 3: set keeps the lowest bits", ShelvesTest::set);
        CHECKS.test("promise 3: set refuses", ShelvesTest::setRefuses);
        CHECKS.test("promise 4: copy takes elements as they were", ShelvesTest::copy);
        CHECKS.test("promise 4: copy refuses", ShelvesTest::copyRefuses);
        CHECKS.test("promise 5: element", ShelvesTest::element);
        CHECKS.test("promise 6: show", ShelvesTest::show);
        CHECKS.test("promise 6: show refuses", ShelvesTest::showRefuses);
        CHECKS.test("promise 7: holds", ShelvesTest::holds);
        CHECKS.test("promise 8: says", ShelvesTest::says);
        CHECKS.test("promise 8: says refuses", ShelvesTest::saysRefuses);
        CHECKS.close();
    }

    /** SHELF 0 bytes (3), 1 longs (2), 2 bytes (5), 3 VOICE 0, 4 NOTHING. */
    private static WhichOneAllKnow filled() {
        WhichOneAllKnow x = new WhichOneAllKnow();
        x.row(0, 0, 3);
        x.set(0, 0, 11);
        x.set(0, 1, 12);
        x.set(0, 2, 13);
        x.row(1, 3, 2);
        x.row(2, 0, 5);
        x.voice(0, 1, 2, 3, 4);
        x.show(3, 0);
        return x;
    }

    private static void newObject() {
        WhichOneAllKnow x = new WhichOneAllKnow();
        int[] due = {0, 0, 0, 2, 0, 24, 1, 0};
        for (int what = 0; what < due.length; what++) {
            CHECKS.due("status(" + what + ")", x.status(what), due[what]);
        }
        for (int what = 11; what <= 17; what++) {
            CHECKS.due("status(" + what + ")", x.status(what), 0);
        }
        for (int s = 0; s < 8; s++) {
            CHECKS.due("holds(" + s + ")", x.holds(s), NONE);
        }
        CHECKS.due("fault()", x.fault(), NONE);
        CHECKS.due("trace(0)", x.trace(0), NONE);
        CHECKS.due("NONE", NONE, -1);
    }

    private static void row() {
        WhichOneAllKnow x = filled();
        for (int sort = 0; sort <= 3; sort++) {
            CHECKS.due("row(7, " + sort + ", 160)", x.row(7, sort, 160), 1);
            CHECKS.due("holds(7)", x.holds(7), 100 + sort);
            CHECKS.due("set(7, 159, 5)", x.set(7, 159, 5), 1);
            CHECKS.due("set(7, 160, 5)", x.set(7, 160, 5), -5);
        }
        CHECKS.due("row over a ROW", x.row(0, 0, 3), 1);
        for (int i = 0; i < 3; i++) {
            CHECKS.due("element(0, " + i + ") anew", x.element(0, i), 0);
        }
        CHECKS.due("row over a VOICE", x.row(3, 2, 0), 1);
        CHECKS.due("holds(3)", x.holds(3), 102);
        CHECKS.due("set in an empty ROW", x.set(3, 0, 1), -5);
        x.row(7, 3, 1);
        x.row(7, 3, 160);
        CHECKS.due("element(7, 159) anew", x.element(7, 159), 0);
    }

    private static void rowRefuses() {
        CHECKS.refused(ShelvesTest::filled, -1, "row(8, 9, -1)", x -> x.row(8, 9, -1));
        CHECKS.refused(ShelvesTest::filled, -1, "row(-1, 0, 0)", x -> x.row(-1, 0, 0));
        CHECKS.refused(ShelvesTest::filled, -4, "row(0, 9, -1)", x -> x.row(0, 9, -1));
        CHECKS.refused(ShelvesTest::filled, -6, "row(0, 4, 161)", x -> x.row(0, 4, 161));
        CHECKS.refused(ShelvesTest::filled, -6, "row(0, -1, 1)", x -> x.row(0, -1, 1));
        CHECKS.refused(ShelvesTest::filled, -7, "row(0, 3, 161)", x -> x.row(0, 3, 161));
        CHECKS.refused(ShelvesTest::filled, -7, "row(0, 3, MAX)", x -> x.row(0, 3, Integer.MAX_VALUE));
    }

    private static void set() {
        WhichOneAllKnow x = new WhichOneAllKnow();
        long[][] cases = {
            {0, 127, 127}, {0, 128, -128}, {0, 300, 44}, {0, -1, -1}, {0, 256, 0},
            {1, 32767, 32767}, {1, 32768, -32768}, {1, 65536 + 7, 7},
            {2, 2147483648L, -2147483648L}, {2, 4294967295L, -1}, {2, 4294967297L, 1},
            {3, Long.MIN_VALUE, Long.MIN_VALUE}, {3, 4294967297L, 4294967297L},
        };
        for (long[] c : cases) {
            x.row(5, (int) c[0], 2);
            CHECKS.due("set(5, 1, " + c[1] + ")", x.set(5, 1, c[1]), 1);
            CHECKS.due("element(5, 1) of SORT " + c[0] + " for " + c[1], x.element(5, 1), c[2]);
            CHECKS.due("element(5, 0)", x.element(5, 0), 0);
        }
    }

    private static void setRefuses() {
        CHECKS.refused(ShelvesTest::filled, -1, "set(8, 9, 1)", x -> x.set(8, 9, 1));
        CHECKS.refused(ShelvesTest::filled, -1, "set(-1, 0, 1)", x -> x.set(-1, 0, 1));
        CHECKS.refused(ShelvesTest::filled, -2, "set(3, 9, 1)", x -> x.set(3, 9, 1));
        CHECKS.refused(ShelvesTest::filled, -3, "set(4, 9, 1)", x -> x.set(4, 9, 1));
        CHECKS.refused(ShelvesTest::filled, -5, "set(0, 3, 1)", x -> x.set(0, 3, 1));
        CHECKS.refused(ShelvesTest::filled, -5, "set(0, -1, 1)", x -> x.set(0, -1, 1));
        CHECKS.refused(ShelvesTest::filled, -5, "set(0, MIN, 1)", x -> x.set(0, Integer.MIN_VALUE, 1));
    }

    private static void copy() {
        WhichOneAllKnow x = filled();
        CHECKS.due("copy(0, 2, 1, 3, 2)", x.copy(0, 2, 1, 3, 2), 1);
        elements(x, 2, 0, 0, 0, 12, 13);
        CHECKS.due("copy(0, 2, 0, 0, 3)", x.copy(0, 2, 0, 0, 3), 1);
        CHECKS.due("copy up over itself", x.copy(2, 2, 0, 1, 4), 1);
        elements(x, 2, 11, 11, 12, 13, 12);
        CHECKS.due("copy down over itself", x.copy(2, 2, 1, 0, 4), 1);
        elements(x, 2, 11, 12, 13, 12, 12);
        CHECKS.due("copy of none at the ends", x.copy(0, 2, 3, 5, 0), 1);
        elements(x, 2, 11, 12, 13, 12, 12);
        elements(x, 0, 11, 12, 13);
    }

    private static void elements(WhichOneAllKnow x, int s, long... due) {
        for (int i = 0; i < due.length; i++) {
            CHECKS.due("element(" + s + ", " + i + ")", x.element(s, i), due[i]);
        }
    }

    private static void copyRefuses() {
        int max = Integer.MAX_VALUE;
        CHECKS.refused(ShelvesTest::filled, -1, "copy(8, 3, 9, 9, -1)", x -> x.copy(8, 3, 9, 9, -1));
        CHECKS.refused(ShelvesTest::filled, -1, "copy(3, 8, 9, 9, -1)", x -> x.copy(3, 8, 9, 9, -1));
        CHECKS.refused(ShelvesTest::filled, -2, "copy(3, 4, 9, 9, -1)", x -> x.copy(3, 4, 9, 9, -1));
        CHECKS.refused(ShelvesTest::filled, -2, "copy(4, 3, 9, 9, -1)", x -> x.copy(4, 3, 9, 9, -1));
        CHECKS.refused(ShelvesTest::filled, -2, "copy(0, 3, 0, 0, 1)", x -> x.copy(0, 3, 0, 0, 1));
        CHECKS.refused(ShelvesTest::filled, -2, "copy(0, 1, 9, 9, -1)", x -> x.copy(0, 1, 9, 9, -1));
        CHECKS.refused(ShelvesTest::filled, -3, "copy(0, 4, 9, 9, -1)", x -> x.copy(0, 4, 9, 9, -1));
        CHECKS.refused(ShelvesTest::filled, -3, "copy(4, 0, 9, 9, -1)", x -> x.copy(4, 0, 9, 9, -1));
        CHECKS.refused(ShelvesTest::filled, -4, "copy(0, 2, 9, 9, -1)", x -> x.copy(0, 2, 9, 9, -1));
        CHECKS.refused(ShelvesTest::filled, -5, "copy(0, 2, -1, 0, 1)", x -> x.copy(0, 2, -1, 0, 1));
        CHECKS.refused(ShelvesTest::filled, -5, "copy(0, 2, 0, -1, 1)", x -> x.copy(0, 2, 0, -1, 1));
        CHECKS.refused(ShelvesTest::filled, -5, "copy(0, 2, 1, 0, 3)", x -> x.copy(0, 2, 1, 0, 3));
        CHECKS.refused(ShelvesTest::filled, -5, "copy(0, 2, 0, 3, 3)", x -> x.copy(0, 2, 0, 3, 3));
        CHECKS.refused(ShelvesTest::filled, -5, "copy(0, 2, 4, 0, 0)", x -> x.copy(0, 2, 4, 0, 0));
        CHECKS.refused(ShelvesTest::filled, -5, "copy(0, 2, 1, 1, MAX)", x -> x.copy(0, 2, 1, 1, max));
        CHECKS.refused(ShelvesTest::filled, -5, "copy(0, 2, MAX, 0, MAX)", x -> x.copy(0, 2, max, 0, max));
    }

    private static void element() {
        WhichOneAllKnow x = filled();
        CHECKS.due("element(0, 2)", x.element(0, 2), 13);
        CHECKS.due("element(0, 3)", x.element(0, 3), 0);
        CHECKS.due("element(0, -1)", x.element(0, -1), 0);
        CHECKS.due("element of a VOICE", x.element(3, 0), 0);
        CHECKS.due("element of NOTHING", x.element(4, 0), 0);
        CHECKS.due("element(8, 0)", x.element(8, 0), 0);
        CHECKS.due("element(-1, 0)", x.element(-1, 0), 0);
        for (int what = 11; what <= 17; what++) {
            CHECKS.due("status(" + what + ")", x.status(what), 0);
        }
        x.row(0, 3, 1);
        CHECKS.due("element(0, 2) of a shorter ROW", x.element(0, 2), 0);
    }

    private static void show() {
        WhichOneAllKnow x = filled();
        x.voice(6, 0, 9, 0, 0);
        CHECKS.due("show(0, 1)", x.show(0, 1), 1);
        CHECKS.due("holds(0)", x.holds(0), 1);
        CHECKS.due("element(0, 0)", x.element(0, 0), 0);
        CHECKS.due("show(0, NONE)", x.show(0, NONE), 0);
        CHECKS.due("holds(0)", x.holds(0), NONE);
        CHECKS.due("show(1, NONE) of a ROW", x.show(1, NONE), 0);
        CHECKS.due("holds(1)", x.holds(1), NONE);
        CHECKS.due("show(7, 0) twice shown", x.show(7, 0), 1);
        CHECKS.due("holds(3)", x.holds(3), 0);
    }

    private static void showRefuses() {
        CHECKS.refused(ShelvesTest::filled, -1, "show(8, 0)", x -> x.show(8, 0));
        CHECKS.refused(ShelvesTest::filled, -1, "show(-1, NONE)", x -> x.show(-1, NONE));
        CHECKS.refused(ShelvesTest::filled, -1, "show(0, 1)", x -> x.show(0, 1));
        CHECKS.refused(ShelvesTest::filled, -1, "show(0, -2)", x -> x.show(0, -2));
    }

    private static void holds() {
        WhichOneAllKnow x = filled();
        CHECKS.due("holds(0)", x.holds(0), 100);
        CHECKS.due("holds(1)", x.holds(1), 103);
        CHECKS.due("holds(3)", x.holds(3), 0);
        CHECKS.due("holds(4)", x.holds(4), NONE);
        CHECKS.due("holds(8)", x.holds(8), NONE);
        CHECKS.due("holds(-1)", x.holds(-1), NONE);
        CHECKS.due("status(11)", x.status(11), 0);
    }

    private static void says() {
        WhichOneAllKnow x = new WhichOneAllKnow();
        x.tune(0);
        x.tune(0);
        for (int kind = 0; kind <= 6; kind++) {
            x.voice(kind, 7, 10 + kind, 0, 9);
            x.knows(kind, 0, true);
            x.knows(kind, 1, true);
            x.show(kind, kind);
        }
        // each row a KIND, taken for 0 to 6: what is due
        int[][] due = {
            {10, -2, -2, -2, -2, -2, -2},
            {11, 9, -2, -2, -2, -2, -2},
            {12, -2, 7, -2, -2, -2, -2},
            {13, 9, -2, 9, -2, -2, -2},
            {14, -2, -2, -2, 2, -2, -2},
            {15, -2, 7, -2, -2, 7, -2},
            {16, -2, -2, -2, 2, -2, 2},
        };
        for (int s = 0; s <= 6; s++) {
            for (int kind = 0; kind <= 6; kind++) {
                CHECKS.due("says(" + s + ", " + kind + ")", x.says(s, kind), due[s][kind]);
            }
        }
    }

    private static void saysRefuses() {
        CHECKS.refused(ShelvesTest::filled, -1, "says(8, 0)", x -> x.says(8, 0));
        CHECKS.refused(ShelvesTest::filled, -1, "says(0, 7)", x -> x.says(0, 7));
        CHECKS.refused(ShelvesTest::filled, -1, "says(4, -1)", x -> x.says(4, -1));
        CHECKS.refused(ShelvesTest::filled, -2, "says(0, 0)", x -> x.says(0, 0));
        CHECKS.refused(ShelvesTest::filled, -2, "says(3, 1)", x -> x.says(3, 1));
        CHECKS.refused(ShelvesTest::filled, -3, "says(4, 1)", x -> x.says(4, 1));
    }
}

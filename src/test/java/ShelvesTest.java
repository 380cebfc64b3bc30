/** Promises 1 to 8: a new object, and what stands on the SHELVES. */
public final class ShelvesTest {
    private static final int NONE = WhichOneAllKnow.NONE;
    private static final int MIN = Integer.MIN_VALUE;
    private static final int MAX = Integer.MAX_VALUE;
    private static final int[] NO_SHELF = Checks.outside(0, 7);
    private static final Checks CHECKS = new Checks();

    public static void main(String[] args) {
        newObject();
        row();
        rowRefuses();
        set();
        setRefuses();
        copy();
        copyRefuses();
        element();
        show();
        holds();
        says();
        saysRefuses();
        CHECKS.close();
    }

    /** SHELF 0 bytes (3), 1 longs (2), 2 bytes (5), 3 VOICE 0, 4 NOTHING, 5 an empty ROW, 6 a full one of bytes. */
    private static WhichOneAllKnow filled() {
        WhichOneAllKnow x = new WhichOneAllKnow();
        x.row(0, 0, 3);
        x.set(0, 0, 11);
        x.set(0, 1, 12);
        x.set(0, 2, 13);
        x.row(1, 3, 2);
        x.set(1, 1, Long.MIN_VALUE);
        x.row(2, 0, 5);
        x.voice(0, 1, 2, 3, 4);
        x.show(3, 0);
        x.row(5, 0, 0);
        x.row(6, 0, 160);
        x.set(6, 159, 9);
        x.image();
        return x;
    }

    private static void elements(WhichOneAllKnow x, int s, long... due) {
        for (int i = 0; i < due.length; i++) {
            CHECKS.due("element(" + s + ", " + i + ")", x.element(s, i), due[i]);
        }
    }

    private static void newObject() {
        CHECKS.test(1, "No VOICES, no TUNES.", "none is there, and none to be told of", () -> {
            WhichOneAllKnow x = new WhichOneAllKnow();
            CHECKS.due("status(0)", x.status(0), 0);
            CHECKS.due("status(1)", x.status(1), 0);
            CHECKS.due("status(5)", x.status(5), 24);
            CHECKS.due("voiceOf(0, 0)", x.voiceOf(0, 0), -5);
            CHECKS.due("highOf(0)", x.highOf(0), -5);
            CHECKS.due("known(0, 0)", x.known(0, 0), -1);
            CHECKS.due("known(0, 1)", x.known(0, 1), 0);
        });
        CHECKS.test(1, "WAIT (0 to 9; 2 at first). HYMNS sung (0 at first).", "of a new object", () -> {
            WhichOneAllKnow x = new WhichOneAllKnow();
            CHECKS.due("status(3)", x.status(3), 2);
            CHECKS.due("status(2)", x.status(2), 0);
        });
        CHECKS.test(1, "SEED (1 at first)", "of a new object", () -> {
            CHECKS.due("status(6)", new WhichOneAllKnow().status(6), 1);
            CHECKS.due("seed(7)", new WhichOneAllKnow().seed(7), 1);
        });
        CHECKS.test(1, "SHELVES 0 to 7 hold NOTHING (at first)", "all eight of a new object", () -> {
            WhichOneAllKnow x = new WhichOneAllKnow();
            for (int s = 0; s <= 7; s++) {
                CHECKS.due("holds(" + s + ")", x.holds(s), NONE);
                CHECKS.due("set(" + s + ", 0, 0)", x.set(s, 0, 0), -3);
            }
        });
        CHECKS.test(1, "No VOICES, no TUNES.", "nor anything of another object", () -> {
            WhichOneAllKnow other = filled();
            other.tune(1);
            other.ask(5);
            other.seed(5);
            other.act(0, 2, 1);
            other.row(9, 0, 0);
            WhichOneAllKnow x = new WhichOneAllKnow();
            CHECKS.due("restore()", x.restore(), -6);
            CHECKS.due("status(16)", x.status(16), 1);
            CHECKS.due("status(11)", x.status(11), 0);
            CHECKS.same("all that", State.of(x), State.of(new WhichOneAllKnow()));
        });
    }

    private static void row() {
        CHECKS.test(2, "SHELF s holds a new ROW: 1.", "over NOTHING, a VOICE, a ROW, in the first and the last", () -> {
            WhichOneAllKnow x = filled();
            CHECKS.due("row(7, 1, 1) over NOTHING", x.row(7, 1, 1), 1);
            CHECKS.due("row(3, 2, 4) over a VOICE", x.row(3, 2, 4), 1);
            CHECKS.due("row(0, 3, 2) over a ROW", x.row(0, 3, 2), 1);
            CHECKS.due("holds(7)", x.holds(7), 101);
            CHECKS.due("holds(3)", x.holds(3), 102);
            CHECKS.due("holds(0)", x.holds(0), 103);
            CHECKS.due("set(0, 1, MAX)", x.set(0, 1, Long.MAX_VALUE), 1);
            CHECKS.due("element(0, 1)", x.element(0, 1), Long.MAX_VALUE);
            CHECKS.due("set(0, 2, 1) of two", x.set(0, 2, 1), -5);
            CHECKS.due("status(0), the VOICE is there still", x.status(0), 1);
        });
        CHECKS.test(2, "A ROW has a SORT (0 bytes, 1 shorts, 2 ints, 3 longs)", "the first to the last", () -> {
            WhichOneAllKnow x = new WhichOneAllKnow();
            for (int sort = 0; sort <= 3; sort++) {
                CHECKS.due("row(4, " + sort + ", 1)", x.row(4, sort, 1), 1);
                CHECKS.due("holds(4)", x.holds(4), 100 + sort);
            }
        });
        CHECKS.test(2, "0 to 160 elements, 0 at first", "none, one, all that may be", () -> {
            for (int n : new int[] {0, 1, 159, 160}) {
                for (int sort = 0; sort <= 3; sort++) {
                    WhichOneAllKnow x = new WhichOneAllKnow();
                    CHECKS.due("row(7, " + sort + ", " + n + ")", x.row(7, sort, n), 1);
                    CHECKS.due("set at the end of " + n, x.set(7, n, 5), -5);
                    for (int i = 0; i < n; i++) {
                        CHECKS.due("element(7, " + i + ")", x.element(7, i), 0);
                    }
                    CHECKS.due("set of the last of " + n, x.set(7, n - 1, 5), n == 0 ? -5 : 1);
                }
            }
        });
        CHECKS.test(2, "0 to 160 elements, 0 at first", "nothing of the ROW ahead is left, once it is long again",
                () -> {
            WhichOneAllKnow x = filled();
            x.row(6, 0, 0);
            x.row(6, 3, 160);
            CHECKS.due("element(6, 159)", x.element(6, 159), 0);
            x.row(0, 0, 3);
            elements(x, 0, 0, 0, 0);
        });
    }

    private static void rowRefuses() {
        CHECKS.test(2, "-1; -4; -6 SORT; -7 n above 160.", "-1, no such SHELF", () ->
                CHECKS.refusedEach(ShelvesTest::filled, -1, "row(_, 0, 0)", (x, s) -> x.row(s, 0, 0), NO_SHELF));
        CHECKS.test(2, "-4 BELOW: a size below 0.", "-1 and the least, over a ROW, a VOICE, NOTHING", () -> {
            for (int s : new int[] {0, 3, 4}) {
                CHECKS.refusedEach(ShelvesTest::filled, -4, "row(" + s + ", 0, _)", (x, n) -> x.row(s, 0, n), -1, MIN);
            }
        });
        CHECKS.test(2, "-6 SORT", "just outside of 0 to 3, and the farthest", () ->
                CHECKS.refusedEach(ShelvesTest::filled, -6, "row(0, _, 3)", (x, o) -> x.row(0, o, 3),
                        Checks.outside(0, 3)));
        CHECKS.test(2, "-7 n above 160", "161 and the most; the ROW stays as it was", () ->
                CHECKS.refusedEach(ShelvesTest::filled, -7, "row(0, 3, _)", (x, n) -> x.row(0, 3, n), 161, MAX));
        CHECKS.test(2, "the first that fits, in this order", "-1, -4, -6, -7", () ->
                CHECKS.order(ShelvesTest::filled, 0, "row", (x, n) -> x.row(n[0], n[1], n[2]),
                        new int[][] {{0, 0}, {3, 0}, {4, 0}, {-1, -1}, {8, -1}},
                        new int[][] {{0, 0}, {3, 0}, {-1, -6}, {4, -6}},
                        new int[][] {{3, 0}, {-1, -4}, {161, -7}, {MAX, -7}, {MIN, -4}}));
    }

    private static void set() {
        CHECKS.test(3, "Element i of the ROW becomes v: 1.", "the first, the last, and no other", () -> {
            WhichOneAllKnow x = filled();
            CHECKS.due("set(2, 0, 7)", x.set(2, 0, 7), 1);
            CHECKS.due("set(2, 4, -8)", x.set(2, 4, -8), 1);
            elements(x, 2, 7, 0, 0, 0, -8);
            elements(x, 0, 11, 12, 13);
            CHECKS.due("set(6, 159, 3)", x.set(6, 159, 3), 1);
            CHECKS.due("element(6, 159)", x.element(6, 159), 3);
            CHECKS.due("element(6, 158)", x.element(6, 158), 0);
        });
        wraps("bytes wrap at 128", 0, new long[][] {{127, 127}, {128, -128}, {-128, -128}, {-129, 127}, {255, -1},
            {256, 0}, {300, 44}, {Long.MAX_VALUE, -1}, {Long.MIN_VALUE, 0}, {4294967296L, 0}});
        wraps("shorts wrap at 32768", 1, new long[][] {{32767, 32767}, {32768, -32768}, {-32768, -32768},
            {-32769, 32767}, {65535, -1}, {65536, 0}, {65543, 7}, {Long.MAX_VALUE, -1}, {Long.MIN_VALUE, 0}});
        wraps("ints wrap at 2147483648", 2, new long[][] {{MAX, MAX}, {2147483648L, MIN}, {MIN, MIN},
            {-2147483649L, MAX}, {4294967295L, -1}, {4294967296L, 0}, {4294967297L, 1}, {Long.MIN_VALUE, 0}});
        wraps("longs are whole", 3, new long[][] {{Long.MAX_VALUE, Long.MAX_VALUE}, {Long.MIN_VALUE, Long.MIN_VALUE},
            {4294967297L, 4294967297L}, {-1, -1}});
    }

    private static void wraps(String what, int sort, long[][] cases) {
        CHECKS.test(3, "what is put in keeps its lowest bits", what, () -> {
            for (long[] c : cases) {
                WhichOneAllKnow x = new WhichOneAllKnow();
                x.row(5, sort, 2);
                CHECKS.due("set(5, 1, " + c[0] + ")", x.set(5, 1, c[0]), 1);
                CHECKS.due("element(5, 1) for " + c[0], x.element(5, 1), c[1]);
                CHECKS.due("element(5, 0) for " + c[0], x.element(5, 0), 0);
            }
        });
    }

    private static void setRefuses() {
        CHECKS.test(3, "-1; -2; -3; -5.", "-1, no such SHELF", () ->
                CHECKS.refusedEach(ShelvesTest::filled, -1, "set(_, 0, 1)", (x, s) -> x.set(s, 0, 1), NO_SHELF));
        CHECKS.test(3, "a SHELF that holds a VOICE where a ROW is wanted", "-2", () ->
                CHECKS.refused(ShelvesTest::filled, -2, "set(3, 0, 1)", x -> x.set(3, 0, 1)));
        CHECKS.test(3, "-3 NOTHING: a SHELF that holds NOTHING.", "one that did from the first, one emptied", () -> {
            CHECKS.refused(ShelvesTest::filled, -3, "set(4, 0, 1)", x -> x.set(4, 0, 1));
            WhichOneAllKnow x = filled();
            x.show(0, NONE);
            CHECKS.due("set(0, 0, 1) once it holds NOTHING", x.set(0, 0, 1), -3);
        });
        CHECKS.test(3, "-5 BEYOND: an element that isn't there", "just outside, of some, of none, of 160", () -> {
            int[] sizes = {3, 2, 5, NONE, NONE, 0, 160};
            for (int s : new int[] {0, 1, 2, 5, 6}) {
                CHECKS.refusedEach(ShelvesTest::filled, -5, "set(" + s + ", _, 1)", (x, i) -> x.set(s, i, 1),
                        Checks.outside(0, sizes[s] - 1));
            }
        });
        CHECKS.test(3, "the first that fits, in this order", "-1, -2, -3, each ahead of -5", () ->
                CHECKS.order(ShelvesTest::filled, 0, "set", (x, n) -> x.set(n[0], n[1], 1),
                        new int[][] {{0, 0}, {8, -1}, {-1, -1}, {3, -2}, {4, -3}},
                        new int[][] {{3, -5}, {-1, -5}, {MAX, -5}, {MIN, -5}}));
    }

    private static void copy() {
        CHECKS.test(4, "come to elements j, j + 1, .. of that in q", "from and to the first, from and to the last",
                () -> {
            WhichOneAllKnow x = filled();
            CHECKS.due("copy(0, 2, 0, 0, 1)", x.copy(0, 2, 0, 0, 1), 1);
            CHECKS.due("copy(0, 2, 1, 3, 2)", x.copy(0, 2, 1, 3, 2), 1);
            elements(x, 2, 11, 0, 0, 12, 13);
            elements(x, 0, 11, 12, 13);
        });
        CHECKS.test(4, "n of them", "none, from just behind the last, and with empty ROWS", () -> {
            int[][] calls = {{0, 2, 0, 0}, {0, 2, 3, 5}, {5, 0, 0, 3}, {0, 5, 3, 0}, {5, 5, 0, 0}, {6, 6, 160, 160}};
            for (int[] c : calls) {
                WhichOneAllKnow x = filled();
                String call = "copy(" + c[0] + ", " + c[1] + ", " + c[2] + ", " + c[3] + ", 0)";
                CHECKS.due(call, x.copy(c[0], c[1], c[2], c[3], 0), 1);
                CHECKS.same(call, State.of(x), State.of(filled()));
            }
        });
        CHECKS.test(4, "n of them", "all 160 of a full ROW", () -> {
            WhichOneAllKnow x = filled();
            x.row(7, 0, 160);
            x.set(6, 0, 1);
            x.set(6, 80, -2);
            CHECKS.due("copy(6, 7, 0, 0, 160)", x.copy(6, 7, 0, 0, 160), 1);
            for (int i = 0; i < 160; i++) {
                CHECKS.due("element(7, " + i + ")", x.element(7, i), i == 0 ? 1 : i == 80 ? -2 : i == 159 ? 9 : 0);
            }
        });
        CHECKS.test(4, "(as they were ahead)", "over itself, up, down and in place", () -> {
            WhichOneAllKnow x = filled();
            for (int i = 0; i < 5; i++) {
                x.set(2, i, i + 1);
            }
            CHECKS.due("copy(2, 2, 0, 0, 5)", x.copy(2, 2, 0, 0, 5), 1);
            elements(x, 2, 1, 2, 3, 4, 5);
            CHECKS.due("copy(2, 2, 0, 1, 4)", x.copy(2, 2, 0, 1, 4), 1);
            elements(x, 2, 1, 1, 2, 3, 4);
            CHECKS.due("copy(2, 2, 1, 0, 4)", x.copy(2, 2, 1, 0, 4), 1);
            elements(x, 2, 1, 2, 3, 4, 4);
        });
        CHECKS.test(4, "of that in q (as they were ahead): 1.", "of each SORT, the greatest and the least of it",
                () -> {
            long[] most = {Byte.MAX_VALUE, Short.MAX_VALUE, MAX, Long.MAX_VALUE};
            for (int sort = 0; sort <= 3; sort++) {
                WhichOneAllKnow x = new WhichOneAllKnow();
                x.row(0, sort, 2);
                x.row(1, sort, 2);
                x.set(0, 0, most[sort]);
                x.set(0, 1, -most[sort] - 1);
                CHECKS.due("copy of SORT " + sort, x.copy(0, 1, 0, 0, 2), 1);
                elements(x, 1, most[sort], -most[sort] - 1);
            }
        });
    }

    private static void copyRefuses() {
        CHECKS.test(4, "-1; -2 also of two SORTS", "-1, no such SHELF p, or q, or both", () -> {
            CHECKS.refusedEach(ShelvesTest::filled, -1, "copy(_, 0, 0, 0, 1)", (x, p) -> x.copy(p, 0, 0, 0, 1),
                    NO_SHELF);
            CHECKS.refusedEach(ShelvesTest::filled, -1, "copy(0, _, 0, 0, 1)", (x, q) -> x.copy(0, q, 0, 0, 1),
                    NO_SHELF);
            CHECKS.refusedEach(ShelvesTest::filled, -1, "copy(_, _, 0, 0, 1)", (x, p) -> x.copy(p, p, 0, 0, 1),
                    NO_SHELF);
        });
        CHECKS.test(4, "a SHELF that holds a VOICE where a ROW is wanted", "-2 in p, in q, in both, beside NOTHING",
                () -> {
            int[][] pairs = {{3, 0}, {0, 3}, {3, 3}, {3, 4}, {4, 3}};
            for (int[] c : pairs) {
                CHECKS.refused(ShelvesTest::filled, -2, "copy(" + c[0] + ", " + c[1] + ", 0, 0, 1)",
                        x -> x.copy(c[0], c[1], 0, 0, 1));
            }
        });
        CHECKS.test(4, "-2 also of two SORTS (when both hold something)", "each pair of SORTS; n 0, too", () -> {
            for (int one = 0; one <= 3; one++) {
                for (int other = 0; other <= 3; other++) {
                    for (int n = 0; n <= 1; n++) {
                        WhichOneAllKnow x = new WhichOneAllKnow();
                        x.row(0, one, 1);
                        x.row(1, other, 1);
                        CHECKS.due("copy of SORTS " + one + ", " + other, x.copy(0, 1, 0, 0, n), one == other ? 1 : -2);
                    }
                }
            }
            CHECKS.refused(ShelvesTest::filled, -2, "copy(0, 1, 0, 0, 1)", x -> x.copy(0, 1, 0, 0, 1));
            CHECKS.refused(ShelvesTest::filled, -2, "copy(1, 0, 0, 0, 0)", x -> x.copy(1, 0, 0, 0, 0));
        });
        CHECKS.test(4, "-3 either; -4 n;", "-3 of p, of q, of both; of a ROW of any SORT", () -> {
            for (int s : new int[] {0, 1, 5, 4}) {
                CHECKS.refused(ShelvesTest::filled, -3, "copy(" + s + ", 4, 0, 0, 0)", x -> x.copy(s, 4, 0, 0, 0));
                CHECKS.refused(ShelvesTest::filled, -3, "copy(4, " + s + ", 0, 0, 0)", x -> x.copy(4, s, 0, 0, 0));
            }
        });
        CHECKS.test(4, "-4 n;", "-1 and the least", () ->
                CHECKS.refusedEach(ShelvesTest::filled, -4, "copy(0, 2, 0, 0, _)", (x, n) -> x.copy(0, 2, 0, 0, n), -1,
                        MIN));
        CHECKS.test(4, "-5 i or j below 0", "-1 and the least, of some and of none", () -> {
            for (int n : new int[] {0, 1}) {
                CHECKS.refusedEach(ShelvesTest::filled, -5, "copy(0, 2, _, 0, " + n + ")",
                        (x, i) -> x.copy(0, 2, i, 0, n), -1, MIN);
                CHECKS.refusedEach(ShelvesTest::filled, -5, "copy(0, 2, 0, _, " + n + ")",
                        (x, j) -> x.copy(0, 2, 0, j, n), -1, MIN);
            }
        });
        CHECKS.test(4, "or an end that isn't there", "just beyond p, just beyond q, of none and of all", () -> {
            int[][] calls = {{0, 2, 1, 0, 3}, {0, 2, 3, 0, 1}, {0, 2, 4, 0, 0}, {0, 2, 0, 3, 3}, {0, 2, 0, 5, 1},
                {0, 2, 0, 6, 0}, {5, 0, 0, 0, 1}, {0, 5, 0, 0, 1}, {5, 5, 1, 0, 0}, {5, 5, 0, 1, 0}, {6, 6, 1, 0, 160},
                {6, 6, 0, 1, 160}, {6, 6, 0, 0, 161}, {6, 6, 161, 0, 0}};
            for (int[] c : calls) {
                CHECKS.refused(ShelvesTest::filled, -5,
                        "copy(" + c[0] + ", " + c[1] + ", " + c[2] + ", " + c[3] + ", " + c[4] + ")",
                        x -> x.copy(c[0], c[1], c[2], c[3], c[4]));
            }
        });
        CHECKS.test(4, "or an end that isn't there", "an end so far that the sum would wrap around", () -> {
            int[][] calls = {{1, 0, MAX}, {0, 1, MAX}, {1, 1, MAX}, {MAX, 0, MAX}, {0, MAX, MAX}, {MAX, MAX, 1},
                {MAX, 0, 1}, {0, MAX, 1}, {MIN, 0, MAX}, {0, MIN, MAX}, {MAX, MAX, 2}};
            for (int[] c : calls) {
                CHECKS.refused(ShelvesTest::filled, -5, "copy(0, 2, " + c[0] + ", " + c[1] + ", " + c[2] + ")",
                        x -> x.copy(0, 2, c[0], c[1], c[2]));
            }
        });
        CHECKS.test(4, "the first that fits, in this order", "-1, -2, -3, -4, -5", () -> {
            int[][] ends = {{0, 0}, {-1, -5}, {161, -5}};
            int[][] sizes = {{0, 0}, {-1, -4}, {161, -5}};
            CHECKS.order(ShelvesTest::filled, 0, "copy", (x, n) -> x.copy(n[0], n[1], n[2], n[3], n[4]),
                    new int[][] {{0, 0}, {8, -1}, {3, -2}, {4, -3}}, new int[][] {{2, 0}, {-1, -1}, {3, -2}, {4, -3}},
                    ends, ends, sizes);
            CHECKS.order(ShelvesTest::filled, 0, "copy", (x, n) -> x.copy(n[0], n[1], n[2], n[3], n[4]),
                    new int[][] {{0, 0}, {8, -1}}, new int[][] {{1, -2}}, ends, ends, sizes);
        });
    }

    private static void element() {
        CHECKS.test(5, "Element i of the ROW", "the first and the last, of some and of 160", () -> {
            WhichOneAllKnow x = filled();
            elements(x, 0, 11, 12, 13);
            elements(x, 1, 0, Long.MIN_VALUE);
            CHECKS.due("element(6, 159)", x.element(6, 159), 9);
        });
        CHECKS.test(5, "0 if there is none (nothing is refused)", "just outside, of an empty ROW, and the farthest",
                () -> {
            WhichOneAllKnow x = filled();
            int[] ends = {3, 2, 5, 0, 0, 0, 160};
            for (int s = 0; s < ends.length; s++) {
                for (int i : Checks.outside(0, ends[s] - 1)) {
                    CHECKS.due("element(" + s + ", " + i + ")", x.element(s, i), 0);
                }
            }
            x.row(0, 3, 1);
            CHECKS.due("element(0, 2) of a shorter ROW", x.element(0, 2), 0);
            CHECKS.noneRefused(x);
        });
        CHECKS.test(5, "0 if there is none (nothing is refused)", "of a VOICE, of NOTHING, of no such SHELF", () -> {
            WhichOneAllKnow x = filled();
            CHECKS.due("element(3, 0) of a VOICE", x.element(3, 0), 0);
            CHECKS.due("element(4, 0) of NOTHING", x.element(4, 0), 0);
            for (int s : NO_SHELF) {
                CHECKS.due("element(" + s + ", 0)", x.element(s, 0), 0);
            }
            x.show(0, 0);
            CHECKS.due("element(0, 0), a VOICE in place of the ROW", x.element(0, 0), 0);
            CHECKS.noneRefused(x);
        });
    }

    private static void show() {
        CHECKS.test(6, "SHELF s holds a VOICE, or NOTHING (voice NONE): 1, 0.",
                "the first and the last VOICE and SHELF", () -> {
            WhichOneAllKnow x = State.full();
            CHECKS.due("show(0, 0)", x.show(0, 0), 1);
            CHECKS.due("show(7, 11)", x.show(7, 11), 1);
            CHECKS.due("show(6, 11), shown twice", x.show(6, 11), 1);
            CHECKS.due("holds(0)", x.holds(0), 0);
            CHECKS.due("holds(7)", x.holds(7), 11);
            CHECKS.due("holds(6)", x.holds(6), 11);
        });
        CHECKS.test(6, "SHELF s holds a VOICE, or NOTHING (voice NONE): 1, 0.", "in place of a ROW, a VOICE, NOTHING",
                () -> {
            for (int s : new int[] {0, 3, 4, 6}) {
                WhichOneAllKnow x = filled();
                CHECKS.due("show(" + s + ", NONE)", x.show(s, NONE), 0);
                CHECKS.due("holds(" + s + ")", x.holds(s), NONE);
                CHECKS.due("show(" + s + ", 0)", x.show(s, 0), 1);
                CHECKS.due("holds(" + s + ")", x.holds(s), 0);
                CHECKS.noneRefused(x);
            }
            WhichOneAllKnow nobody = new WhichOneAllKnow();
            CHECKS.due("show(0, NONE) where nobody is", nobody.show(0, NONE), 0);
        });
        CHECKS.test(6, "or NOTHING (voice NONE): 1, 0. -1.", "-1, no such SHELF, with a VOICE and with NONE", () -> {
            CHECKS.refusedEach(ShelvesTest::filled, -1, "show(_, 0)", (x, s) -> x.show(s, 0), NO_SHELF);
            CHECKS.refusedEach(ShelvesTest::filled, -1, "show(_, NONE)", (x, s) -> x.show(s, NONE), NO_SHELF);
        });
        CHECKS.test(6, "-1 NOBODY: no such SHELF, VOICE, TUNE, KIND.",
                "no such VOICE, just beyond the last, of nobody, of 12", () -> {
            CHECKS.refusedEach(ShelvesTest::filled, -1, "show(0, _)", (x, v) -> x.show(0, v), 1, -2, 12, MIN, MAX);
            CHECKS.refusedEach(ShelvesTest::filled, -1, "show(4, _)", (x, v) -> x.show(4, v), 1, -2);
            CHECKS.refusedEach(WhichOneAllKnow::new, -1, "show(0, _) where nobody is", (x, v) -> x.show(0, v), 0, -2,
                    100);
            CHECKS.refusedEach(State::full, -1, "show(0, _) of 12", (x, v) -> x.show(0, v), 12, -2, 100, 103);
            CHECKS.refused(ShelvesTest::filled, -1, "show(8, 1), both", x -> x.show(8, 1));
        });
    }

    private static void holds() {
        CHECKS.test(7, "NONE NOTHING, or no such SHELF", "nothing is refused", () -> {
            WhichOneAllKnow x = filled();
            CHECKS.due("holds(4)", x.holds(4), NONE);
            for (int s : NO_SHELF) {
                CHECKS.due("holds(" + s + ")", x.holds(s), NONE);
            }
            CHECKS.noneRefused(x);
        });
        CHECKS.test(7, "a VOICE's number", "the first and the last", () -> {
            WhichOneAllKnow x = State.full();
            for (int v = 0; v <= 11; v++) {
                x.show(v % 8, v);
                CHECKS.due("holds(" + v % 8 + ")", x.holds(v % 8), v);
            }
        });
        CHECKS.test(7, "100 and the SORT of a ROW", "of some, of none, of 160", () -> {
            WhichOneAllKnow x = filled();
            CHECKS.due("holds(0)", x.holds(0), 100);
            CHECKS.due("holds(1)", x.holds(1), 103);
            CHECKS.due("holds(5)", x.holds(5), 100);
            CHECKS.due("holds(6)", x.holds(6), 100);
        });
    }

    /** Each KIND from 0 to 6 in the SHELF of its number, with numbers least or greatest; he KNOWS so many. */
    private static WhichOneAllKnow kinds(boolean greatest) {
        WhichOneAllKnow x = new WhichOneAllKnow();
        for (int t = 0; t < 6; t++) {
            x.tune(0);
        }
        for (int kind = 0; kind <= 6; kind++) {
            x.voice(kind, greatest ? 9 : 0, kind, 0, greatest ? 11 : 0);
            for (int t = 0; t < 6 && greatest; t++) {
                x.knows(kind, t, true);
            }
            x.show(kind, kind);
        }
        return x;
    }

    private static void says() {
        // a row for each KIND, taken for 0 to 6; what isn't refused is told below
        int[][] due = {
            {0, -2, -2, -2, -2, -2, -2},
            {1, 11, -2, -2, -2, -2, -2},
            {2, -2, 9, -2, -2, -2, -2},
            {3, 11, -2, 11, -2, -2, -2},
            {4, -2, -2, -2, 6, -2, -2},
            {5, -2, 9, -2, -2, 9, -2},
            {6, -2, -2, -2, 6, -2, 6},
        };
        CHECKS.test(8, "What the VOICE in SHELF s, taken for one of a KIND, says", "each KIND for each, the greatest",
                () -> {
            WhichOneAllKnow x = kinds(true);
            for (int s = 0; s <= 6; s++) {
                for (int kind = 0; kind <= 6; kind++) {
                    CHECKS.due("says(" + s + ", " + kind + ")", x.says(s, kind), due[s][kind]);
                }
            }
        });
        CHECKS.test(8, "What the VOICE in SHELF s, taken for one of a KIND, says", "each KIND for each, the least",
                () -> {
            WhichOneAllKnow x = kinds(false);
            for (int s = 0; s <= 6; s++) {
                for (int kind = 1; kind <= 6; kind++) {
                    CHECKS.due("says(" + s + ", " + kind + ")", x.says(s, kind), due[s][kind] < 0 ? -2 : 0);
                }
            }
        });
        CHECKS.test(8, "VOICE his PLACE", "0 and 23, and where he has gone", () -> {
            WhichOneAllKnow x = kinds(true);
            CHECKS.due("says(0, 0)", x.says(0, 0), 0);
            x.move(0, 23);
            CHECKS.due("says(0, 0) once he moved", x.says(0, 0), 23);
        });
        CHECKS.test(8, "LEADING, BOOMER his TOP;", "0 and 11, of a BOOMER for either", () -> {
            for (boolean greatest : new boolean[] {false, true}) {
                WhichOneAllKnow x = kinds(greatest);
                CHECKS.due("says(1, 1)", x.says(1, 1), greatest ? 11 : 0);
                CHECKS.due("says(3, 1)", x.says(3, 1), greatest ? 11 : 0);
                CHECKS.due("says(3, 3)", x.says(3, 3), greatest ? 11 : 0);
            }
        });
        CHECKS.test(8, "JOINING, MIME his a;", "0 and 9, of a MIME for either", () -> {
            for (boolean greatest : new boolean[] {false, true}) {
                WhichOneAllKnow x = kinds(greatest);
                CHECKS.due("says(2, 2)", x.says(2, 2), greatest ? 9 : 0);
                CHECKS.due("says(5, 2)", x.says(5, 2), greatest ? 9 : 0);
                CHECKS.due("says(5, 5)", x.says(5, 5), greatest ? 9 : 0);
            }
        });
        CHECKS.test(8, "ASTRAY, DRAGGER how many TUNES he KNOWS", "what he KNOWS now: 0, 1, 6", () -> {
            WhichOneAllKnow x = kinds(false);
            CHECKS.due("says(4, 4)", x.says(4, 4), 0);
            x.knows(4, 5, true);
            CHECKS.due("says(4, 4) of the last TUNE", x.says(4, 4), 1);
            CHECKS.due("says(6, 6)", x.says(6, 6), 0);
            CHECKS.due("says(6, 6) of six", kinds(true).says(6, 6), 6);
        });
    }

    private static void saysRefuses() {
        CHECKS.test(8, "-1 SHELF, KIND;", "just outside, and the farthest", () -> {
            CHECKS.refusedEach(ShelvesTest::filled, -1, "says(_, 0)", (x, s) -> x.says(s, 0), NO_SHELF);
            CHECKS.refusedEach(ShelvesTest::filled, -1, "says(3, _)", (x, k) -> x.says(3, k), Checks.outside(0, 6));
        });
        CHECKS.test(8, "-2 also a VOICE of another KIND", "one above, one beside, one below that isn't his", () -> {
            int[][] pairs = {{0, 1}, {1, 3}, {1, 2}, {3, 2}, {2, 5}, {5, 1}, {4, 6}, {6, 5}, {0, 6}};
            for (int[] c : pairs) {
                CHECKS.refused(() -> kinds(true), -2, "says(" + c[0] + ", " + c[1] + ")", x -> x.says(c[0], c[1]));
            }
        });
        CHECKS.test(8, "or the other way about", "-2, a SHELF that holds a ROW, of each KIND and SORT, empty, too",
                () -> {
            for (int s : new int[] {0, 1, 5, 6}) {
                CHECKS.refusedEach(ShelvesTest::filled, -2, "says(" + s + ", _)", (x, k) -> x.says(s, k), 0, 1, 6);
            }
        });
        CHECKS.test(8, "-2 also a VOICE of another KIND; -3.", "-3, NOTHING, of each KIND", () ->
                CHECKS.refusedEach(ShelvesTest::filled, -3, "says(4, _)", (x, k) -> x.says(4, k), 0, 1, 2, 3, 4, 5, 6));
        CHECKS.test(8, "the first that fits, in this order", "-1 of SHELF or KIND, then -2, -3", () ->
                CHECKS.order(ShelvesTest::filled, 0, "says", (x, n) -> x.says(n[0], n[1]),
                        new int[][] {{3, 0}, {0, -2}, {4, -3}, {8, -1}, {-1, -1}},
                        new int[][] {{0, 0}, {7, -1}, {-1, -1}}));
    }
}

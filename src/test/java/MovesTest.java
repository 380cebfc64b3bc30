/** Promises 38 to 42: MOVES, THE TRACE, THE IMAGE, status. */
public final class MovesTest {
    private static final int NONE = WhichOneAllKnow.NONE;
    private static final int MIN = Integer.MIN_VALUE;
    private static final int MAX = Integer.MAX_VALUE;
    private static final String BODY = "the body of the VOICE's KIND, or of the next KIND above that has one";
    private static final String WRAPS = "MOVES of VOICES, with x (wrapping): 0 breathes, 1 sings, 2 sits; m the number, k its a.";
    private static final String IMAGE = "THE IMAGE of all but SHELVES (and THE IMAGE, REFUSALS, the FAULT, THE TRACE) is taken";
    private static final Checks CHECKS = new Checks();

    public static void main(String[] args) {
        act();
        bodies();
        actOfNone();
        trace();
        image();
        restore();
        restoreShelves();
        restoreRefuses();
        status();
        statusOfRefusals();
        CHECKS.close();
    }

    /** VOICE 0 to the number are of no interest; the one of that number is of the KIND. */
    private static WhichOneAllKnow numbered(int number, int kind, int a) {
        WhichOneAllKnow x = new WhichOneAllKnow();
        for (int v = 0; v < number; v++) {
            x.voice(0, 9, v, 0, 0);
        }
        x.voice(kind, a, number, 0, 0);
        return x;
    }

    /** For each KIND a VOICE whose number is 5 and whose a is 3. */
    private static WhichOneAllKnow sixth(int kind) {
        return numbered(5, kind, 3);
    }

    // the bodies as the document writes them, with Java's own wrapping, for a VOICE of each KIND

    private static int breathes(int kind, int m, int k, int x) {
        switch (kind) {
            case 1: case 3: return x + m + k;
            case 4: return x + m - m;
            case 6: return (x + m - m) * 2;
            default: return x + m;
        }
    }

    private static int sings(int kind, int m, int k, int x) {
        switch (kind) {
            case 2: case 5: return breathes(kind, m, k, x) * 2 * 3;
            case 3: return breathes(kind, m, k, x + 1) * 2;
            case 6: return breathes(kind, m, k, x - k) * 2;
            default: return breathes(kind, m, k, x) * 2;
        }
    }

    private static int sits(int kind, int m, int k, int x) {
        int sits = sings(kind, m, k, x) ^ breathes(kind, m, k, x - k);
        switch (kind) {
            case 4: case 6: return -sits;
            case 5: return sits ^ 5;
            default: return sits;
        }
    }

    private static void act() {
        CHECKS.test(38, BODY, "each KIND and MOVE, by hand: x 10, m 5, k 3", () -> {
            int[][] due = {
                {15, 30, 30 ^ 12},
                {18, 36, 36 ^ 15},
                {15, 90, 90 ^ 12},
                {18, 38, 38 ^ 15},
                {10, 20, -(20 ^ 7)},
                {15, 90, 90 ^ 12 ^ 5},
                {20, 28, -(28 ^ 14)},
            };
            for (int kind = 0; kind <= 6; kind++) {
                for (int move = 0; move <= 2; move++) {
                    CHECKS.due("act(5, " + move + ", 10) of KIND " + kind, sixth(kind).act(5, move, 10),
                            due[kind][move]);
                }
            }
        });
        for (int kind = 0; kind <= 6; kind++) {
            int of = kind;
            CHECKS.test(38, WRAPS, "KIND " + kind + ", x at the ends of int and halfway", () -> {
                int[] ends = {MAX, MAX - 1, MIN, MIN + 1, MAX / 2, MAX / 2 + 1, MIN / 2, MIN / 2 - 1, MAX / 3,
                        MAX / 3 + 1,
                    MAX / 6, MIN / 6, 0, -1, 1};
                for (int x : ends) {
                    CHECKS.due("act(5, 0, " + x + ")", sixth(of).act(5, 0, x), breathes(of, 5, 3, x));
                    CHECKS.due("act(5, 1, " + x + ")", sixth(of).act(5, 1, x), sings(of, 5, 3, x));
                    CHECKS.due("act(5, 2, " + x + ")", sixth(of).act(5, 2, x), sits(of, 5, 3, x));
                }
            });
            CHECKS.test(38, "m the number, k its a.", "KIND " + kind + ", number 0 and 11, a 0 and 9", () -> {
                for (int m : new int[] {0, 11}) {
                    for (int k : new int[] {0, 9}) {
                        WhichOneAllKnow x = numbered(m, of, k);
                        CHECKS.due("breathes, number " + m + ", a " + k, x.act(m, 0, -7), breathes(of, m, k, -7));
                        CHECKS.due("sings, number " + m + ", a " + k, x.act(m, 1, -7), sings(of, m, k, -7));
                        CHECKS.due("sits, number " + m + ", a " + k, x.act(m, 2, -7), sits(of, m, k, -7));
                        CHECKS.noneRefused(x);
                    }
                }
            });
        }
        CHECKS.test(38, WRAPS, "by hand: the sum, the product, the difference, the sign wrap", () -> {
            CHECKS.due("breathes(MAX) of m 5", sixth(0).act(5, 0, MAX), MIN + 4);
            CHECKS.due("sings(2^30 - 5) of m 5", sixth(0).act(5, 1, 1073741819), MIN);
            CHECKS.due("sings(2^30) of a JOINING, m 0", numbered(0, 2, 0).act(0, 1, 1073741824), MIN);
            CHECKS.due("sings(MAX) of a BOOMER, m 0, k 0", numbered(0, 3, 0).act(0, 1, MAX), 0);
            CHECKS.due("sits(MIN) of an ASTRAY, m 0, k 0", numbered(0, 4, 0).act(0, 2, MIN), MIN);
            CHECKS.due("sings(MIN) of a DRAGGER, m 0, k 1", numbered(0, 6, 1).act(0, 1, MIN), -4);
        });
    }

    /** Each body by a VOICE of the KIND that has it, whose number is 5 and whose a is 3. */
    private static void bodies() {
        String[] sentences = {
            "VOICE: 10 breathes: x + m.", "11 sings: breathes(x) * 2.", "12 sits: sings(x) ^ breathes(x - k).",
            "LEADING: 20 breathes: super.breathes(x) + k.", "JOINING: 30 sings: super.sings(x) * 3.",
            "BOOMER: 40 sings: super.sings(x + 1).", "ASTRAY: 50 sits: -super.sits(x).",
            "51 breathes: super.breathes(x) - m.", "MIME: 60 sits: super.sits(x) ^ 5.",
            "DRAGGER: 70 breathes: super.breathes(x) * 2.", "71 sings: super.sings(x - k).",
        };
        int[][] due = {
            // KIND, MOVE, number, x, answer
            {0, 0, 10, MAX, MIN + 4}, {0, 1, 11, MAX - 5, -2}, {0, 2, 12, MIN, 10 ^ (MAX + 3)},
            {1, 0, 20, MAX - 7, MIN}, {2, 1, 30, 357913942 - 5, -2147483644},
            {3, 1, 40, MAX, 2 * (MIN + 5 + 3)}, {4, 2, 50, 0, 3},
            {4, 0, 51, MAX, MAX}, {5, 2, 60, MIN, 30 ^ (MAX + 3) ^ 5},
            {6, 0, 70, MIN, 0}, {6, 1, 71, MIN + 2, 4 * MAX},
        };
        for (int i = 0; i < due.length; i++) {
            int[] d = due[i];
            CHECKS.test(38, sentences[i], "act(5, " + d[1] + ", " + d[3] + "), wrapping", () -> {
                WhichOneAllKnow x = sixth(d[0]);
                CHECKS.due("act(5, " + d[1] + ", " + d[3] + ")", x.act(5, d[1], d[3]), d[4]);
                CHECKS.due("trace(0)", x.trace(0), d[2]);
            });
        }
        CHECKS.test(38, "super: from the KIND above the body's on", "not from the VOICE's own on", () -> {
            // a DRAGGER sits by ASTRAY's body; what that calls above is VOICE's, which calls the DRAGGER's own again
            WhichOneAllKnow x = sixth(6);
            x.act(5, 2, 10);
            traced(x, 50, 12, 71, 11, 70, 51, 10, 70, 51, 10);
            // a BOOMER breathes by LEADING's body
            WhichOneAllKnow y = sixth(3);
            y.act(5, 1, 10);
            traced(y, 40, 11, 20, 10);
        });
        CHECKS.test(39, "the first 20 are kept", "no MOVE runs more than ten, and all of them are kept", () -> {
            for (int kind = 0; kind <= 6; kind++) {
                for (int move = 0; move <= 2; move++) {
                    WhichOneAllKnow x = sixth(kind);
                    x.act(5, move, 1);
                    int ran = x.status(7);
                    CHECKS.due("trace(" + (ran - 1) + ") is there", x.trace(ran - 1) >= 10 ? 1 : 0, 1);
                    CHECKS.due("trace(" + ran + ")", x.trace(ran), NONE);
                    CHECKS.due("more than ten", ran > 10 ? 1 : 0, 0);
                }
            }
        });
    }

    private static void traced(WhichOneAllKnow x, int... due) {
        for (int i = 0; i < due.length; i++) {
            CHECKS.due("trace(" + i + ")", x.trace(i), due[i]);
        }
        CHECKS.due("trace(" + due.length + ")", x.trace(due.length), NONE);
        CHECKS.due("status(7)", x.status(7), due.length);
    }

    private static void none(WhichOneAllKnow x, int voice, int move) {
        if (x.status(0) > 0) {
            x.act(0, 2, 1);
        }
        CHECKS.due("act(" + voice + ", " + move + ", 7)", x.act(voice, move, 7), 0);
        traced(x);
        CHECKS.noneRefused(x);
    }

    private static void actOfNone() {
        CHECKS.test(38, "0, and no TRACE then: no such VOICE, move.",
                "no such VOICE: just outside, and the farthest, of nobody", () -> {
            for (int v : Checks.outside(0, 5)) {
                none(sixth(6), v, 0);
            }
            for (int v : Checks.outside(0, 11)) {
                none(State.full(), v, 2);
            }
            none(new WhichOneAllKnow(), 0, 0);
        });
        CHECKS.test(38, "0, and no TRACE then: no such VOICE, move.",
                "no such MOVE: just outside of 0 to 2, and the farthest", () -> {
            for (int move : Checks.outside(0, 2)) {
                none(sixth(6), 5, move);
                none(sixth(0), 0, move);
            }
        });
        CHECKS.test(38, "A MOVE of a VOICE with x.", "nothing changes but THE TRACE", () -> {
            WhichOneAllKnow x = State.full();
            WhichOneAllKnow y = State.full();
            for (int v = 0; v < 12; v++) {
                for (int move = 0; move <= 2; move++) {
                    x.act(v, move, MAX);
                }
            }
            x.act(12, 0, 0);
            CHECKS.same("all MOVES", State.of(x), State.of(y));
        });
    }

    private static void trace() {
        CHECKS.test(39, "the numbers of the bodies that ran in the latest act(), in the order in which they began",
                "each KIND and MOVE", () -> {
            int[][][] due = {
                {{10}, {11, 10}, {12, 11, 10, 10}},
                {{20, 10}, {11, 20, 10}, {12, 11, 20, 10, 20, 10}},
                {{10}, {30, 11, 10}, {12, 30, 11, 10, 10}},
                {{20, 10}, {40, 11, 20, 10}, {12, 40, 11, 20, 10, 20, 10}},
                {{51, 10}, {11, 51, 10}, {50, 12, 11, 51, 10, 51, 10}},
                {{10}, {30, 11, 10}, {60, 12, 30, 11, 10, 10}},
                {{70, 51, 10}, {71, 11, 70, 51, 10}, {50, 12, 71, 11, 70, 51, 10, 70, 51, 10}},
            };
            for (int kind = 0; kind <= 6; kind++) {
                WhichOneAllKnow x = sixth(kind);
                traced(x);
                for (int move = 0; move <= 2; move++) {
                    x.act(5, move, 10);
                    traced(x, due[kind][move]);
                }
                // a shorter one leaves nothing of the longer one
                x.act(5, 0, 10);
                traced(x, due[kind][0]);
            }
        });
        CHECKS.test(39, "THE TRACE's i-th body. NONE: none such.",
                "just outside, and the farthest; nothing is refused", () -> {
            WhichOneAllKnow x = sixth(6);
            CHECKS.due("trace(0) ahead of any", x.trace(0), NONE);
            x.act(5, 2, 10);
            CHECKS.due("trace(9), the last", x.trace(9), 10);
            for (int i : Checks.outside(0, 9)) {
                CHECKS.due("trace(" + i + ")", x.trace(i), NONE);
            }
            for (int i : Checks.outside(0, 19)) {
                CHECKS.due("trace(" + i + ")", x.trace(i), NONE);
            }
            CHECKS.noneRefused(x);
        });
        CHECKS.test(39, "the bodies that ran in the latest act()", "no other call has bodies run", () -> {
            WhichOneAllKnow x = sixth(4);
            x.tune(0);
            x.act(5, 0, 1);
            x.hymn(0, 0, 3);
            x.sung(0, 0, 3, 0);
            x.years(3);
            x.voice(0, 0, 23, 0, 0);
            x.trace(0);
            traced(x, 51, 10);
        });
    }

    private static WhichOneAllKnow singing() {
        WhichOneAllKnow x = State.read("tune 3;tune 5;voice 1 4 9 2 10;voice 6 1 11 3 8;knows 0 1;wait 7");
        x.seed(99);
        x.hymn(1, 0, 4);
        return x;
    }

    /** Every call that changes what THE IMAGE has. */
    private static void changeAll(WhichOneAllKnow x) {
        x.tune(1);
        x.voice(3, 1, 0, 1, 1);
        x.knows(1, 0, true);
        x.knows(0, 1, false);
        x.move(0, 23);
        x.ask(1);
        x.years(2);
        x.seed(-9);
    }

    private static void image() {
        CHECKS.test(40, "how many VOICES.", "of nobody, two, twelve; nothing else changes", () -> {
            CHECKS.due("image() of nobody", new WhichOneAllKnow().image(), 0);
            CHECKS.due("image() of two", singing().image(), 2);
            WhichOneAllKnow x = State.full();
            CHECKS.due("image() of twelve", x.image(), 12);
            CHECKS.same("image()", State.of(x), State.of(State.full()));
            CHECKS.noneRefused(x);
        });
        CHECKS.test(40, IMAGE, "the latest counts", () -> {
            WhichOneAllKnow x = singing();
            x.image();
            x.voice(0, 0, 0, 0, 0);
            CHECKS.due("image() anew", x.image(), 3);
            x.voice(0, 0, 1, 0, 0);
            CHECKS.due("restore()", x.restore(), 3);
        });
        CHECKS.test(40, IMAGE, "of nobody: all goes, even from a full CHURCH", () -> {
            WhichOneAllKnow x = new WhichOneAllKnow();
            x.image();
            for (int i = 0; i < 6; i++) {
                x.tune(0);
            }
            for (int v = 0; v < 12; v++) {
                x.voice(0, 0, v, 0, 0);
                x.knows(v, 5, true);
            }
            x.years(1);
            x.ask(0);
            CHECKS.due("restore()", x.restore(), 0);
            CHECKS.same("restore()", State.of(x), State.of(new WhichOneAllKnow()));
        });
        CHECKS.test(40, IMAGE, "of a full CHURCH, of which nothing can be taken", () -> {
            WhichOneAllKnow x = State.full();
            x.image();
            for (int v = 0; v < 12; v++) {
                x.move(v, 2 * v + 1);
                x.knows(v, v % 6, true);
            }
            CHECKS.due("restore()", x.restore(), 12);
            CHECKS.same("restore()", State.of(x), State.of(State.full()));
        });
    }

    private static void restore() {
        CHECKS.test(41, "All is as THE IMAGE has it", "VOICES, TUNES, WAIT, HYMNS, SEED; twice by the same IMAGE",
                () -> {
            WhichOneAllKnow x = singing();
            x.image();
            String before = State.of(x);
            for (int time = 0; time < 2; time++) {
                changeAll(x);
                CHECKS.due("restore()", x.restore(), 2);
                CHECKS.same("restore()", State.of(x), before);
            }
        });
        CHECKS.test(41, "All is as THE IMAGE has it", "restore() at once changes nothing", () -> {
            WhichOneAllKnow x = singing();
            x.image();
            CHECKS.due("restore()", x.restore(), 2);
            CHECKS.same("restore()", State.of(x), State.of(singing()));
        });
        CHECKS.test(41, "All is as THE IMAGE has it", "what comes later doesn't change THE IMAGE", () -> {
            WhichOneAllKnow x = singing();
            x.image();
            x.restore();
            changeAll(x);
            x.restore();
            CHECKS.same("restore()", State.of(x), State.of(singing()));
        });
        CHECKS.test(41, "All is as THE IMAGE has it", "a VOICE told anew takes the number and a free PLACE", () -> {
            WhichOneAllKnow x = singing();
            x.image();
            x.voice(0, 0, 0, 0, 0);
            x.restore();
            CHECKS.due("voice at the PLACE free again", x.voice(5, 0, 0, 0, 0), 2);
            CHECKS.due("tune", x.tune(0), 2);
        });
    }

    private static void restoreShelves() {
        CHECKS.test(41, "SHELVES with VOICES hold those of these numbers, or NOTHING",
                "one who was there, one told later", () -> {
            WhichOneAllKnow x = singing();
            x.image();
            x.voice(0, 0, 0, 0, 0);
            x.show(0, 2);
            x.show(1, 0);
            x.show(2, 1);
            x.show(3, 2);
            x.show(7, 2);
            x.restore();
            int[] held = {NONE, 0, 1, NONE, NONE, NONE, NONE, NONE};
            for (int s = 0; s < 8; s++) {
                CHECKS.due("holds(" + s + ")", x.holds(s), held[s]);
            }
            x.voice(0, 0, 0, 0, 0);
            CHECKS.due("holds(0), with a new VOICE 2", x.holds(0), NONE);
        });
        CHECKS.test(41, "SHELVES with VOICES hold those of these numbers, or NOTHING", "he says what he was", () -> {
            WhichOneAllKnow x = singing();
            x.show(0, 0);
            x.image();
            x.move(0, 23);
            CHECKS.due("says(0, 0)", x.says(0, 0), 23);
            x.restore();
            CHECKS.due("says(0, 0)", x.says(0, 0), 9);
        });
        CHECKS.test(41, "SHELVES with VOICES hold those of these numbers, or NOTHING",
                "of nobody: all NOTHING; of twelve: all stay", () -> {
            WhichOneAllKnow x = new WhichOneAllKnow();
            x.image();
            x.voice(0, 0, 0, 0, 0);
            x.show(3, 0);
            x.restore();
            CHECKS.due("holds(3)", x.holds(3), NONE);
            WhichOneAllKnow y = State.full();
            y.image();
            y.show(3, 11);
            y.restore();
            CHECKS.due("holds(3)", y.holds(3), 11);
        });
        CHECKS.test(40, "THE IMAGE of all but SHELVES",
                "a SHELF shown since stays so, a VOICE that left it doesn't come back", () -> {
            WhichOneAllKnow x = singing();
            x.show(0, 1);
            x.show(1, 1);
            x.image();
            x.row(0, 1, 2);
            x.set(0, 1, 5);
            x.show(1, NONE);
            x.show(2, 1);
            for (int sort = 0; sort <= 3; sort++) {
                x.row(4 + sort, sort, 1);
            }
            x.restore();
            int[] held = {101, NONE, 1, NONE, 100, 101, 102, 103};
            for (int s = 0; s < 8; s++) {
                CHECKS.due("holds(" + s + ")", x.holds(s), held[s]);
            }
            CHECKS.due("element(0, 1)", x.element(0, 1), 5);
        });
        CHECKS.test(40, "(and THE IMAGE, REFUSALS, the FAULT, THE TRACE)", "they stay as they are", () -> {
            WhichOneAllKnow x = singing();
            x.image();
            State.text(x, 6, "wait x");
            x.church(6);
            x.act(1, 0, 4);
            x.row(8, 0, 0);
            x.restore();
            CHECKS.due("fault()", x.fault(), 5);
            CHECKS.due("status(16)", x.status(16), 1);
            CHECKS.due("status(11)", x.status(11), 1);
            traced(x, 70, 51, 10);
            CHECKS.due("restore() again", x.restore(), 2);
        });
    }

    private static void restoreRefuses() {
        CHECKS.test(41, "how many VOICES. -6 there is none.", "ahead of any image()", () -> {
            CHECKS.refused(MovesTest::singing, -6, "restore()", WhichOneAllKnow::restore);
            CHECKS.refused(WhichOneAllKnow::new, -6, "restore()", WhichOneAllKnow::restore);
        });
        CHECKS.test(41, "how many VOICES. -6 there is none.", "one of nobody is one", () -> {
            WhichOneAllKnow x = new WhichOneAllKnow();
            CHECKS.due("restore()", x.restore(), -6);
            x.image();
            CHECKS.due("restore()", x.restore(), 0);
            CHECKS.due("status(16)", x.status(16), 1);
        });
    }

    private static void status() {
        CHECKS.test(42, "5 free PLACES, 6 SEED", "24 of nobody, 12 of twelve", () -> {
            WhichOneAllKnow x = new WhichOneAllKnow();
            for (int v = 0; v <= 12; v++) {
                CHECKS.due("status(0)", x.status(0), v);
                CHECKS.due("status(5)", x.status(5), 24 - v);
                x.voice(0, 0, v, 0, 0);
            }
        });
        CHECKS.test(42, "0 VOICES, 1 TUNES, 2 HYMNS, 3 WAIT, 4 KNOWN by all together, 5 free PLACES, 6 SEED",
                "each, then the most", () -> {
            WhichOneAllKnow x = singing();
            x.knows(1, 0, true);
            x.act(1, 2, 1);
            // the LEADING alone sang RIGHT: the DRAGGER at 11 is not NEAR 9
            int[] due = {2, 2, 1, 7, 2, 22, 99, 10};
            for (int what = 0; what < due.length; what++) {
                CHECKS.due("status(" + what + ")", x.status(what), due[what]);
            }
            WhichOneAllKnow y = State.full();
            for (int v = 0; v < 12; v++) {
                for (int t = 0; t < 6; t++) {
                    y.knows(v, t, true);
                }
            }
            y.ask(9);
            y.years(60);
            y.years(60);
            y.seed(MIN);
            int[] most = {12, 6, 120, 9, 72, 12, MIN, 0};
            for (int what = 0; what < most.length; what++) {
                CHECKS.due("status(" + what + ") of a full CHURCH", y.status(what), most[what]);
            }
        });
        CHECKS.test(42, "7 bodies that ran in the latest act() (all, kept or not)", "none, one, ten, none again",
                () -> {
            WhichOneAllKnow x = sixth(6);
            CHECKS.due("status(7)", x.status(7), 0);
            x.act(0, 0, 1);
            CHECKS.due("status(7)", x.status(7), 1);
            x.act(5, 2, 1);
            CHECKS.due("status(7)", x.status(7), 10);
            x.act(6, 2, 1);
            CHECKS.due("status(7)", x.status(7), 0);
        });
        CHECKS.test(42, "NONE for another what.", "just outside of 0 to 7 and 11 to 17; nothing is refused", () -> {
            WhichOneAllKnow x = singing();
            for (int what : new int[] {-1, 8, 9, 10, 18, 19, 99, MIN, MAX}) {
                CHECKS.due("status(" + what + ")", x.status(what), NONE);
            }
            CHECKS.noneRefused(x);
        });
    }

    private static void statusOfRefusals() {
        String sentence = "11 to 17: REFUSALS -1 to -7.";
        CHECKS.test(42, sentence, "none at first, one by one, each by itself", () -> {
            WhichOneAllKnow x = singing();
            CHECKS.noneRefused(x);
            x.show(0, 0);
            int[] counts = new int[7];
            for (int time = 1; time <= 3; time++) {
                x.row(8, 0, 0);
                x.set(0, 0, 0);
                x.set(1, 0, 0);
                x.row(2, 0, -1);
                x.highOf(9);
                x.ask(10);
                x.row(2, 0, 200);
                for (int i = 0; i < 7; i++) {
                    counts[i]++;
                    CHECKS.due("status(" + (11 + i) + ")", x.status(11 + i), counts[i]);
                }
            }
        });
        CHECKS.test(42, sentence, "told in one, two or three figures", () -> {
            WhichOneAllKnow x = singing();
            x.show(0, 0);
            x.row(5, 0, 1);
            x.knows(9, 9, true);
            x.verse(9, 0, 0);
            x.helps(9, 0, 0, 0);
            CHECKS.due("status(11)", x.status(11), 3);
            x.set(0, 0, 0);
            x.judge(0, 0);
            CHECKS.due("status(12)", x.status(12), 2);
            x.set(1, 0, 0);
            x.changed(1, 1, 0, 0);
            CHECKS.due("status(13)", x.status(13), 2);
            x.row(2, 0, -1);
            x.judge(5, -1);
            CHECKS.due("status(14)", x.status(14), 2);
            x.highOf(9);
            x.verse(0, 0, 9);
            CHECKS.due("status(15)", x.status(15), 2);
            x.two(-1);
            x.helps(0, 0, 9, 9);
            x.ask(-1);
            CHECKS.due("status(16)", x.status(16), 3);
            x.row(2, 0, 200);
            CHECKS.due("status(17)", x.status(17), 1);
        });
        CHECKS.test(42, sentence, "some five hundred of one number", () -> {
            WhichOneAllKnow x = new WhichOneAllKnow();
            for (int time = 0; time < 500; time++) {
                x.ask(10);
            }
            CHECKS.due("status(16)", x.status(16), 500);
            CHECKS.due("status(3)", x.status(3), 2);
        });
        CHECKS.test(42, "nothing changes but how many there were",
                "answers of NONE, 0 or less that are no refusals don't count", () -> {
            WhichOneAllKnow x = State.read("tune 0;voice 3 0 0 0 11;voice 4 0 1 2 11;knows 1 0");
            x.row(0, 3, 1);
            x.two(0);
            x.verse(0, 0, 0);
            x.helps(0, 0, 0, 1);
            x.taught(0, 0);
            x.changed(0, 1, 0, 0);
            x.judge(0, 0);
            x.element(9, 9);
            x.holds(9);
            x.fault();
            x.trace(-1);
            x.act(9, 9, 9);
            x.act(1, 2, 77);
            x.status(9);
            x.seed(-6);
            x.seed(-1);
            CHECKS.noneRefused(x);
        });
    }
}

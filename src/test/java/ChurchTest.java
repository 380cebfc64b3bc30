/** Promises 9 to 15: the CHURCH, told call by call. */
public final class ChurchTest {
    private static final int MIN = Integer.MIN_VALUE;
    private static final int MAX = Integer.MAX_VALUE;
    private static final Checks CHECKS = new Checks();

    public static void main(String[] args) {
        tune();
        voice();
        voiceRefuses();
        knows();
        move();
        ask();
        voiceOf();
        highOf();
        CHECKS.close();
    }

    /** Two TUNES, VOICE 0 at PLACE 3, VOICE 1 at PLACE 23, and an IMAGE of that; SHELF 0 shows VOICE 0. */
    private static WhichOneAllKnow small() {
        WhichOneAllKnow x = new WhichOneAllKnow();
        x.tune(4);
        x.tune(11);
        x.voice(2, 9, 3, 5, 11);
        x.voice(6, 0, 23, 0, 0);
        x.show(0, 0);
        x.image();
        x.ask(7);
        return x;
    }

    private static void tune() {
        CHECKS.test(9, "TUNES have numbers, from 0 on, 6 at most", "the first to the sixth", () -> {
            WhichOneAllKnow x = new WhichOneAllKnow();
            for (int i = 0; i < 6; i++) {
                CHECKS.due("tune", x.tune(i), i);
                CHECKS.due("status(1)", x.status(1), i + 1);
            }
            CHECKS.due("tune, the seventh", x.tune(0), -7);
            CHECKS.due("status(1)", x.status(1), 6);
        });
        CHECKS.test(9, "HIGH (0 to 11)", "the least and the greatest, the same twice", () -> {
            WhichOneAllKnow x = new WhichOneAllKnow();
            for (int i = 0; i < 6; i++) {
                x.tune(i % 2 * 11);
            }
            for (int i = 0; i < 6; i++) {
                CHECKS.due("highOf(" + i + ")", x.highOf(i), i % 2 * 11);
            }
        });
        CHECKS.test(9, "A TUNE: the number. -6; -7.", "-6, HIGH just outside, and the farthest", () ->
                CHECKS.refusedEach(ChurchTest::small, -6, "tune(_)", (x, h) -> x.tune(h), Checks.outside(0, 11)));
        CHECKS.test(9, "-7 ROOM: more than may be.", "a seventh TUNE, of any HIGH", () ->
                CHECKS.refusedEach(State::full, -7, "tune(_)", (x, h) -> x.tune(h), 0, 11));
        CHECKS.test(9, "the first that fits, in this order", "-6 ahead of -7", () ->
                CHECKS.refusedEach(State::full, -6, "tune(_)", (x, h) -> x.tune(h), Checks.outside(0, 11)));
    }

    private static void voice() {
        CHECKS.test(10, "VOICES have numbers, from 0 on, 12 at most", "the first to the twelfth", () -> {
            WhichOneAllKnow x = new WhichOneAllKnow();
            for (int v = 0; v < 12; v++) {
                CHECKS.due("voice", x.voice(0, 0, 23 - v, 0, 0), v);
                CHECKS.due("status(0)", x.status(0), v + 1);
            }
            CHECKS.due("voice, the thirteenth", x.voice(0, 0, 0, 0, 0), -7);
            CHECKS.due("status(0)", x.status(0), 12);
            CHECKS.due("status(5)", x.status(5), 12);
        });
        CHECKS.test(10, "A VOICE: the number.", "he is what was told", () -> {
            WhichOneAllKnow x = State.full();
            for (int v = 0; v < 12; v++) {
                int[] due = {v % 7, v % 10, 2 * v, v % 6, v, 0};
                for (int what = 0; what < due.length; what++) {
                    CHECKS.due("voiceOf(" + v + ", " + what + ")", x.voiceOf(v, what), due[what]);
                }
            }
        });
        // KIND, a, PLACE, BOLD, TOP: one after the other least and greatest
        mayBe("0 VOICE; 1 LEADING, 2 JOINING, 4 ASTRAY, each under VOICE; 3 BOOMER, under LEADING", 0, 0, 6);
        mayBe("a (0 to 9), PLACE (one in each)", 1, 0, 9);
        mayBe("PLACES: 6 times the ROW (0 to 3) and the SEAT (0 to 5).", 2, 0, 23);
        mayBe("BOLD (0 to 5)", 3, 0, 5);
        mayBe("TOP (0 to 11)", 4, 0, 11);
        CHECKS.test(10, "KNOWS (TUNES, bits; none at first)", "though there are TUNES, and others KNOW them", () -> {
            WhichOneAllKnow x = State.read("tune 0;tune 1;voice 0 0 0 0 0;knows 0 0;knows 0 1");
            CHECKS.due("voice", x.voice(0, 0, 1, 0, 0), 1);
            CHECKS.due("voiceOf(1, 5)", x.voiceOf(1, 5), 0);
            // nor does he know what one of his number knew, ahead of restore()
            x.image();
            x.voice(0, 0, 2, 0, 0);
            x.knows(2, 1, true);
            x.restore();
            x.voice(0, 0, 2, 0, 0);
            CHECKS.due("voiceOf(2, 5)", x.voiceOf(2, 5), 0);
        });
    }

    private static int tell(WhichOneAllKnow x, int which, int number) {
        int[] n = {0, 0, 5, 0, 0};
        n[which] = number;
        return x.voice(n[0], n[1], n[2], n[3], n[4]);
    }

    private static void mayBe(String sentence, int which, int least, int most) {
        CHECKS.test(10, sentence, "each from " + least + " to " + most + " may be", () -> {
            for (int number = least; number <= most; number++) {
                WhichOneAllKnow x = new WhichOneAllKnow();
                CHECKS.due("voice with " + number, tell(x, which, number), 0);
                CHECKS.due("voiceOf(0, " + which + ")", x.voiceOf(0, which), number);
            }
        });
    }

    private static void mayNotBe(String sentence, int which, int refusal, int least, int most) {
        CHECKS.test(10, sentence, refusal + ", just outside of " + least + " to " + most + ", and the farthest", () ->
                CHECKS.refusedEach(ChurchTest::small, refusal, "voice with number " + which + " _",
                        (x, n) -> tell(x, which, n), Checks.outside(least, most)));
    }

    private static void voiceRefuses() {
        mayNotBe("A VOICE: the number. -1 KIND; -6; -7.", 0, -1, 0, 6);
        mayNotBe("a (0 to 9), PLACE (one in each)", 1, -6, 0, 9);
        mayNotBe("a PLACE that is none or taken, too", 2, -6, 0, 23);
        mayNotBe("BOLD (0 to 5)", 3, -6, 0, 5);
        mayNotBe("TOP (0 to 11)", 4, -6, 0, 11);
        CHECKS.test(10, "PLACE (one in each)", "a PLACE that is taken is -6, once it is left it may be", () -> {
            CHECKS.refusedEach(ChurchTest::small, -6, "voice at PLACE _", (x, p) -> tell(x, 2, p), 3, 23);
            WhichOneAllKnow x = small();
            x.move(0, 4);
            CHECKS.due("voice at PLACE 4, taken now", tell(x, 2, 4), -6);
            CHECKS.due("voice at PLACE 3, left", tell(x, 2, 3), 2);
        });
        CHECKS.test(10, "-7 ROOM: more than may be.", "a thirteenth VOICE", () ->
                CHECKS.refusedEach(State::full, -7, "voice at PLACE _", (x, p) -> tell(x, 2, p), 1, 23));
        CHECKS.test(10, "the first that fits, in this order", "-1, -6, with room", () ->
                CHECKS.order(ChurchTest::small, 0, "voice", ChurchTest::tellAll, orders(3)));
        CHECKS.test(10, "the first that fits, in this order", "-1, -6, -7, without room", () -> {
            CHECKS.order(State::full, 0, "voice", ChurchTest::tellAll, orders(2));
            CHECKS.refused(State::full, -6, "voice at a taken PLACE", x -> x.voice(0, 0, 0, 0, 0));
        });
    }

    private static int tellAll(WhichOneAllKnow x, int[] n) {
        return x.voice(n[0], n[1], n[2], n[3], n[4]);
    }

    private static int[][][] orders(int taken) {
        return new int[][][] {{{0, 0}, {6, 0}, {7, -1}, {-1, -1}}, {{9, 0}, {10, -6}}, {{1, 0}, {24, -6}, {taken, -6}},
            {{5, 0}, {6, -6}}, {{0, 0}, {-1, -6}}};
    }

    private static void knows() {
        CHECKS.test(11, "whether he did (1, 0)", "he learns it, KNOWS it, forgets it, doesn't", () -> {
            WhichOneAllKnow x = small();
            CHECKS.due("knows(0, 1, true)", x.knows(0, 1, true), 0);
            CHECKS.due("voiceOf(0, 5)", x.voiceOf(0, 5), 2);
            CHECKS.due("knows(0, 1, true) again", x.knows(0, 1, true), 1);
            CHECKS.due("voiceOf(0, 5)", x.voiceOf(0, 5), 2);
            CHECKS.due("knows(0, 1, false)", x.knows(0, 1, false), 1);
            CHECKS.due("voiceOf(0, 5)", x.voiceOf(0, 5), 0);
            CHECKS.due("knows(0, 1, false) again", x.knows(0, 1, false), 0);
            CHECKS.due("voiceOf(0, 5)", x.voiceOf(0, 5), 0);
            CHECKS.due("voiceOf(1, 5) of the other", x.voiceOf(1, 5), 0);
        });
        CHECKS.test(11, "KNOWS (TUNES, bits; none at first)", "the first and the last of six, of the twelfth VOICE",
                () -> {
            WhichOneAllKnow x = State.full();
            CHECKS.due("knows(11, 5, true)", x.knows(11, 5, true), 0);
            CHECKS.due("voiceOf(11, 5)", x.voiceOf(11, 5), 32);
            for (int t = 0; t < 5; t++) {
                x.knows(11, t, true);
            }
            CHECKS.due("voiceOf(11, 5) of all", x.voiceOf(11, 5), 63);
            CHECKS.due("knows(11, 0, false)", x.knows(11, 0, false), 1);
            CHECKS.due("voiceOf(11, 5)", x.voiceOf(11, 5), 62);
            CHECKS.due("voiceOf(10, 5)", x.voiceOf(10, 5), 0);
        });
        CHECKS.test(11, "whether he did (1, 0). -1.", "no such VOICE: just outside, and the farthest", () -> {
            CHECKS.refusedEach(ChurchTest::small, -1, "knows(_, 0, true)", (x, v) -> x.knows(v, 0, true),
                    Checks.outside(0, 1));
            CHECKS.refusedEach(State::full, -1, "knows(_, 0, true) of 12", (x, v) -> x.knows(v, 0, true),
                    Checks.outside(0, 11));
        });
        CHECKS.test(11, "whether he did (1, 0). -1.", "no such TUNE: just outside, and the farthest", () -> {
            CHECKS.refusedEach(ChurchTest::small, -1, "knows(0, _, true)", (x, t) -> x.knows(0, t, true),
                    Checks.outside(0, 1));
            CHECKS.refusedEach(ChurchTest::small, -1, "knows(0, _, false)", (x, t) -> x.knows(0, t, false),
                    Checks.outside(0, 1));
            CHECKS.refusedEach(State::full, -1, "knows(0, _, true) of 6", (x, t) -> x.knows(0, t, true),
                    Checks.outside(0, 5));
        });
        CHECKS.test(11, "-1 NOBODY: no such SHELF, VOICE, TUNE, KIND.", "both are missing, where nobody is", () ->
                CHECKS.refused(WhichOneAllKnow::new, -1, "knows(0, 0, true)", x -> x.knows(0, 0, true)));
    }

    private static void move() {
        CHECKS.test(12, "A VOICE goes to a free PLACE: where he was.",
                "to the first and the last PLACE, to one that was left", () -> {
            WhichOneAllKnow x = small();
            CHECKS.due("move(0, 0)", x.move(0, 0), 3);
            CHECKS.due("voiceOf(0, 2)", x.voiceOf(0, 2), 0);
            CHECKS.due("move(1, 3), left by VOICE 0", x.move(1, 3), 23);
            CHECKS.due("move(0, 23)", x.move(0, 23), 0);
            CHECKS.due("voiceOf(0, 2)", x.voiceOf(0, 2), 23);
            CHECKS.due("voiceOf(1, 2)", x.voiceOf(1, 2), 3);
            CHECKS.due("move(1, 0)", x.move(1, 0), 3);
        });
        CHECKS.test(12, "A VOICE goes to a free PLACE: where he was.",
                "in a full CHURCH each of the twelve that are free", () -> {
            WhichOneAllKnow x = State.full();
            for (int v = 0; v < 12; v++) {
                CHECKS.due("move(" + v + ", " + (2 * v + 1) + ")", x.move(v, 2 * v + 1), 2 * v);
            }
            CHECKS.due("status(5)", x.status(5), 12);
        });
        CHECKS.test(12, "where he was. -1; -6.", "-1, no such VOICE", () -> {
            CHECKS.refusedEach(ChurchTest::small, -1, "move(_, 5)", (x, v) -> x.move(v, 5), Checks.outside(0, 1));
            CHECKS.refusedEach(State::full, -1, "move(_, 5) of 12", (x, v) -> x.move(v, 5), Checks.outside(0, 11));
            CHECKS.refused(WhichOneAllKnow::new, -1, "move(0, 0) of nobody", x -> x.move(0, 0));
        });
        CHECKS.test(12, "a PLACE that is none or taken, too", "-6, just outside of 0 to 23, and the farthest", () ->
                CHECKS.refusedEach(ChurchTest::small, -6, "move(0, _)", (x, p) -> x.move(0, p), Checks.outside(0, 23)));
        CHECKS.test(12, "a PLACE that is none or taken, too", "-6, taken by another, by himself", () -> {
            CHECKS.refusedEach(ChurchTest::small, -6, "move(0, _)", (x, p) -> x.move(0, p), 23, 3);
            CHECKS.refusedEach(State::full, -6, "move(11, _) of 12", (x, p) -> x.move(11, p), 0, 20, 22);
        });
        CHECKS.test(12, "the first that fits, in this order", "-1 ahead of -6", () ->
                CHECKS.order(ChurchTest::small, 0, "move", (x, n) -> x.move(n[0], n[1]),
                        new int[][] {{0, 0}, {2, -1}, {-1, -1}},
                                new int[][] {{0, 0}, {24, -6}, {-1, -6}, {23, -6}, {3, -6}}));
    }

    private static void ask() {
        CHECKS.test(13, "WAIT becomes v: what it was.", "the least and the greatest, from 2 at first", () -> {
            WhichOneAllKnow x = new WhichOneAllKnow();
            CHECKS.due("ask(9)", x.ask(9), 2);
            CHECKS.due("status(3)", x.status(3), 9);
            CHECKS.due("ask(0)", x.ask(0), 9);
            CHECKS.due("status(3)", x.status(3), 0);
            CHECKS.due("ask(0) again", x.ask(0), 0);
        });
        CHECKS.test(13, "WAIT becomes v: what it was. -6.", "just outside of 0 to 9, and the farthest", () ->
                CHECKS.refusedEach(ChurchTest::small, -6, "ask(_)", (x, v) -> x.ask(v), Checks.outside(0, 9)));
    }

    private static void voiceOf() {
        CHECKS.test(14, "0 KIND, 1 a, 2 PLACE, 3 BOLD, 4 TOP, 5 KNOWS (bits)", "the least and the greatest of each",
                () -> {
            WhichOneAllKnow x = State.full();
            x.voice(0, 0, 1, 0, 0);
            WhichOneAllKnow y = State.read("tune 0;tune 0;tune 0;tune 0;tune 0;tune 0;voice 6 9 23 5 11;voice 0 0 0 0 0;"
                    + "knows 0 0;knows 0 1;knows 0 2;knows 0 3;knows 0 4;knows 0 5");
            int[] most = {6, 9, 23, 5, 11, 63};
            for (int what = 0; what <= 5; what++) {
                CHECKS.due("voiceOf(0, " + what + ")", y.voiceOf(0, what), most[what]);
                CHECKS.due("voiceOf(1, " + what + ")", y.voiceOf(1, what), 0);
            }
            CHECKS.due("voiceOf(11, 4) of twelve", x.voiceOf(11, 4), 11);
        });
        CHECKS.test(14, "-5: no such one, another what.", "no such VOICE: just outside, and the farthest; of nobody",
                () -> {
            CHECKS.refusedEach(ChurchTest::small, -5, "voiceOf(_, 0)", (x, v) -> x.voiceOf(v, 0), Checks.outside(0, 1));
            CHECKS.refusedEach(State::full, -5, "voiceOf(_, 5)", (x, v) -> x.voiceOf(v, 5), Checks.outside(0, 11));
            CHECKS.refused(WhichOneAllKnow::new, -5, "voiceOf(0, 0)", x -> x.voiceOf(0, 0));
        });
        CHECKS.test(14, "-5: no such one, another what.", "another what: just outside of 0 to 5; both at once", () -> {
            CHECKS.refusedEach(ChurchTest::small, -5, "voiceOf(0, _)", (x, w) -> x.voiceOf(0, w), Checks.outside(0, 5));
            CHECKS.refused(ChurchTest::small, -5, "voiceOf(2, 6)", x -> x.voiceOf(2, 6));
        });
    }

    private static void highOf() {
        CHECKS.test(15, "HIGH of a TUNE.", "the first and the last of six", () -> {
            WhichOneAllKnow x = State.full();
            CHECKS.due("highOf(0)", x.highOf(0), 0);
            CHECKS.due("highOf(5)", x.highOf(5), 5);
            CHECKS.due("highOf(1) of 11", small().highOf(1), 11);
        });
        CHECKS.test(15, "-5 no such one.", "just outside, and the farthest, of two, of six, of none", () -> {
            CHECKS.refusedEach(ChurchTest::small, -5, "highOf(_)", (x, t) -> x.highOf(t), Checks.outside(0, 1));
            CHECKS.refusedEach(State::full, -5, "highOf(_)", (x, t) -> x.highOf(t), Checks.outside(0, 5));
            CHECKS.refusedEach(WhichOneAllKnow::new, -5, "highOf(_)", (x, t) -> x.highOf(t), -1, 0, MIN, MAX);
        });
    }
}

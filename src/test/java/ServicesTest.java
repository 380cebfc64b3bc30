/** Promises 32 to 37: SERVICES told and in truth, YEARS, SEED. */
public final class ServicesTest {
    private static final int NONE = WhichOneAllKnow.NONE;
    private static final int MIN = Integer.MIN_VALUE;
    private static final int MAX = Integer.MAX_VALUE;
    private static final String TOLD = "each 100 times the TUNE, 10 times the PITCH, and the VERSES (1 to 9)";
    private static final String SUNG = "who sings RIGHT at its last VERSE KNOWS it then; HYMNS is 1 more.";
    private static final String DRAW =
            "A DRAW below n: SEED (1 at first) becomes SEED times 1103515245, and 12345 (an int, wrapping);";
    private static final String IN_ORDER = "the first that fits, in this order";
    private static final Checks CHECKS = new Checks();

    public static void main(String[] args) {
        judge();
        judgeRefuses();
        behind();
        eachHymn();
        behindRefuses();
        done();
        doneRefuses();
        hymn();
        hymnRefuses();
        years();
        yearsRefuses();
        seed();
        CHECKS.close();
    }

    /** Two TUNES; LEADING who KNOWS TUNE 0, and two BOLD 3 behind him who learn it: at VERSE v the first v + 1 sing. */
    private static WhichOneAllKnow fresh() {
        return State.read("tune 0;tune 7;voice 1 0 0 0 11;voice 0 0 1 3 11;voice 0 0 2 3 11;knows 0 0");
    }

    /**
     * As fresh(); SHELF 6 a ROW of 41 ones, 5 a VOICE, 4 one element that may not be, 3 NOTHING, 2 an empty ROW,
     * 1 forty ones.
     */
    private static WhichOneAllKnow learners() {
        WhichOneAllKnow x = fresh();
        x.row(6, 2, 41);
        x.row(1, 3, 40);
        for (int i = 0; i < 41; i++) {
            x.set(6, i, 1);
        }
        for (int i = 0; i < 40; i++) {
            x.set(1, i, 1);
        }
        x.show(5, 0);
        x.row(4, 0, 1);
        x.set(4, 0, 60);
        x.row(2, 0, 0);
        x.image();
        x.act(0, 2, 3);
        return x;
    }


    private static int judged(WhichOneAllKnow x, long... told) {
        State.row(x, 0, told);
        return x.judge(0, told.length);
    }

    private static void judge() {
        CHECKS.test(32, TOLD, "VERSES 1 and 9 may be, 0 and 10 not", () -> {
            CHECKS.due("1, 9", judged(fresh(), 1, 9), NONE);
            CHECKS.due("0", judged(fresh(), 0), 0);
            CHECKS.due("10 (PITCH 1, no VERSES)", judged(fresh(), 1, 10), 1);
            CHECKS.due("50", judged(fresh(), 50), 0);
            CHECKS.due("100 (TUNE 1, no VERSES)", judged(fresh(), 1, 9, 100), 2);
        });
        CHECKS.test(32, TOLD, "PITCH 0 and 5 may be, 6 and 9 not", () -> {
            CHECKS.due("1, 51, 59, 101, 159", judged(fresh(), 1, 51, 59, 101, 159), NONE);
            CHECKS.due("61", judged(fresh(), 1, 2, 61), 2);
            CHECKS.due("69", judged(fresh(), 69), 0);
            CHECKS.due("99", judged(fresh(), 99), 0);
            CHECKS.due("161", judged(fresh(), 161), 0);
        });
        CHECKS.test(32, TOLD, "the last TUNE may be, one more not; of none, of six", () -> {
            CHECKS.due("101 of two", judged(fresh(), 101), NONE);
            CHECKS.due("201 of two", judged(fresh(), 1, 201), 1);
            CHECKS.due("1001 of two", judged(fresh(), 1001), 0);
            CHECKS.due("1 of none", judged(new WhichOneAllKnow(), 1), 0);
            CHECKS.due("1, 501, 559 of six", judged(State.full(), 1, 501, 559), NONE);
            CHECKS.due("601 of six", judged(State.full(), 501, 601), 1);
        });
        CHECKS.test(32, TOLD, "below 0, and the farthest", () -> {
            for (long told : new long[] {-1, -9, -51, -99, -100, -101, -159, MIN, MAX, Long.MIN_VALUE + MIN}) {
                CHECKS.due("1, " + told, judged(fresh(), 1, told), 1);
            }
        });
        CHECKS.test(32, "Elements of a ROW of longs count by their lowest 32 bits", "more above", () -> {
            CHECKS.due("2^32 + 1, 2^32", judged(fresh(), 4294967297L, 4294967296L), 1);
            CHECKS.due("the least and 109", judged(fresh(), Long.MIN_VALUE + 109), NONE);
            CHECKS.due("2^31 + 1", judged(fresh(), 2147483649L), 0);
        });
        CHECKS.test(32, "WRONG: the first that may not be; NONE.", "the first of several, the last of all", () -> {
            CHECKS.due("1, 0, 61", judged(fresh(), 1, 0, 61), 1);
            CHECKS.due("61, 0", judged(fresh(), 61, 0), 0);
            CHECKS.due("1, 1, 201", judged(fresh(), 1, 1, 201), 2);
        });
        CHECKS.test(32, "by the first n elements (0 to 40) of the ROW in SHELF s",
                "none, of an empty ROW, of one that may not be", () -> {
            WhichOneAllKnow x = learners();
            CHECKS.due("judge(2, 0)", x.judge(2, 0), NONE);
            CHECKS.due("judge(4, 0)", x.judge(4, 0), NONE);
            CHECKS.due("judge(4, 1)", x.judge(4, 1), 0);
            WhichOneAllKnow nobody = new WhichOneAllKnow();
            nobody.row(0, 1, 0);
            CHECKS.due("judge(0, 0) of nobody", nobody.judge(0, 0), NONE);
            CHECKS.noneRefused(nobody);
        });
        CHECKS.test(32, "by the first n elements (0 to 40) of the ROW in SHELF s",
                "forty; what stands behind doesn't count", () -> {
            WhichOneAllKnow x = learners();
            x.set(6, 40, 0);
            CHECKS.due("judge(6, 40)", x.judge(6, 40), NONE);
            CHECKS.due("judge(1, 40)", x.judge(1, 40), NONE);
            x.set(6, 39, 0);
            CHECKS.due("judge(6, 40)", x.judge(6, 40), 39);
            CHECKS.due("judge(6, 39)", x.judge(6, 39), NONE);
        });
    }

    private static void judgeRefuses() {
        CHECKS.test(32, "-11; -12; -13; -14 n; -15 fewer elements; -16 n above 40 (counted as -1 to -6).",
                "-11, no such SHELF", () ->
                CHECKS.refusedEach(ServicesTest::learners, -11, "judge(_, 0)", (x, s) -> x.judge(s, 0),
                        Checks.outside(0, 7)));
        CHECKS.test(32, "-12; -13; -14 n;", "-12, a VOICE; -13, NOTHING", () -> {
            CHECKS.refused(ServicesTest::learners, -12, "judge(5, 0)", x -> x.judge(5, 0));
            CHECKS.refused(ServicesTest::learners, -13, "judge(3, 0)", x -> x.judge(3, 0));
        });
        CHECKS.test(32, "-14 n;", "-1 and the least", () ->
                CHECKS.refusedEach(ServicesTest::learners, -14, "judge(6, _)", (x, n) -> x.judge(6, n), -1, MIN));
        CHECKS.test(32, "-15 fewer elements;", "one more than there are: of none, one, forty, 41", () -> {
            CHECKS.refusedEach(ServicesTest::learners, -15, "judge(2, _)", (x, n) -> x.judge(2, n), 1, 41, MAX);
            CHECKS.refusedEach(ServicesTest::learners, -15, "judge(4, _)", (x, n) -> x.judge(4, n), 2);
            CHECKS.refusedEach(ServicesTest::learners, -15, "judge(1, _)", (x, n) -> x.judge(1, n), 41);
            CHECKS.refusedEach(ServicesTest::learners, -15, "judge(6, _)", (x, n) -> x.judge(6, n), 42);
        });
        CHECKS.test(32, "-16 n above 40", "41 of 41, 160 of 160", () -> {
            CHECKS.refused(ServicesTest::learners, -16, "judge(6, 41)", x -> x.judge(6, 41));
            CHECKS.refused(ServicesTest::longRow, -16, "judge(0, 160)", x -> x.judge(0, 160));
        });
        CHECKS.test(32, IN_ORDER, "-11 to -16", () -> orders(10, (x, n) -> x.judge(n[0], n[1]), new int[][] {{0, 0}}));
    }

    private static WhichOneAllKnow longRow() {
        WhichOneAllKnow x = fresh();
        x.row(0, 0, 160);
        return x;
    }

    /** SHELF and n, and a third number. */
    private static void orders(int less, Checks.AllOpen call, int[][] third) {
        CHECKS.order(ServicesTest::learners, less, "call", call, new int[][] {{8, -1}, {-1, -1}, {5, -2}, {3, -3}},
                new int[][] {{0, 0}, {-1, -4}, {42, -5}, {MIN, -4}}, third);
        CHECKS.order(ServicesTest::learners, less, "call", call, new int[][] {{6, 0}},
                new int[][] {{40, 0}, {41, -6}, {42, -5}, {-1, -4}}, third);
        CHECKS.order(ServicesTest::learners, less, "call", call, new int[][] {{2, 0}},
                new int[][] {{0, 0}, {1, -5}, {41, -5}, {-1, -4}}, third);
    }

    private static void told(int known, int right, int caught, long... service) {
        int[] due = {known, right, caught};
        WhichOneAllKnow x = fresh();
        State.row(x, 0, service);
        String before = State.of(x);
        for (int what = 0; what <= 2; what++) {
            CHECKS.due("behind(0, " + service.length + ", " + what + ")", x.behind(0, service.length, what), due[what]);
        }
        CHECKS.same("behind", State.of(x), before);
        CHECKS.noneRefused(x);
    }

    private static void behind() {
        String sentence = "KNOWN by all together, how many sang RIGHT at all last VERSES together, at how many of them at least half did";
        CHECKS.test(33, sentence, "of no HYMNS: none sang, none was caught", () -> {
            told(1, 0, 0);
            WhichOneAllKnow nobody = new WhichOneAllKnow();
            nobody.row(0, 0, 0);
            for (int what = 0; what <= 2; what++) {
                CHECKS.due("behind(0, 0, " + what + ") of nobody", nobody.behind(0, 0, what), 0);
            }
        });
        CHECKS.test(33, sentence, "one HYMN, of 1 to 9 VERSES: 1, 2, 3 of three sing", () -> {
            told(1, 1, 0, 1);
            told(2, 2, 1, 2);
            told(3, 3, 1, 3);
            told(3, 3, 1, 9);
        });
        CHECKS.test(33, sentence, "just half, one less", () -> {
            WhichOneAllKnow x = fresh();
            x.voice(0, 0, 23, 0, 0);
            State.row(x, 0, 1, 2);
            CHECKS.due("1 of 4, 2 of 4", x.behind(0, 2, 2), 1);
            x.voice(0, 0, 22, 0, 0);
            CHECKS.due("1 of 5, 2 of 5", x.behind(0, 2, 2), 0);
        });
        CHECKS.test(33, "half of all VOICES at least (of nobody at 0)", "of nobody all are caught", () -> {
            WhichOneAllKnow nobody = State.read("tune 0");
            State.row(nobody, 0, 1, 59);
            CHECKS.due("KNOWN", nobody.behind(0, 2, 0), 0);
            CHECKS.due("RIGHT", nobody.behind(0, 2, 1), 0);
            CHECKS.due("caught", nobody.behind(0, 2, 2), 2);
        });
        CHECKS.test(33, sentence, "whoever learned it sings it in the next HYMN", () -> {
            // behind two VERSES VOICE 1 KNOWS it, and begins at VERSE 0
            told(2, 4, 2, 2, 1);
            told(2, 5, 2, 1, 2, 1);
            told(3, 5, 2, 2, 2);
            told(3, 3, 1, 9, 109);
            told(1, 0, 0, 109);
            told(2, 2, 1, 2, 101);
        });
        CHECKS.test(33, sentence, "of forty HYMNS, of a ROW of 40 and of 41", () -> {
            for (int s : new int[] {1, 6}) {
                CHECKS.due("KNOWN", learners().behind(s, 40, 0), 1);
                CHECKS.due("RIGHT", learners().behind(s, 40, 1), 40);
                CHECKS.due("caught", learners().behind(s, 40, 2), 0);
            }
            WhichOneAllKnow x = State.read("tune 0");
            for (int v = 0; v < 12; v++) {
                x.voice(2, 0, v, 0, 11);
            }
            x.row(0, 0, 40);
            for (int i = 0; i < 40; i++) {
                x.set(0, i, 59);
            }
            CHECKS.due("KNOWN of twelve", x.behind(0, 40, 0), 12);
            CHECKS.due("RIGHT of twelve", x.behind(0, 40, 1), 480);
            CHECKS.due("caught of twelve", x.behind(0, 40, 2), 40);
        });
        CHECKS.test(33, "Elements of a ROW of longs count by their lowest 32 bits", "more above", () ->
                told(2, 2, 1, Long.MIN_VALUE + 2));
    }

    /** One more sings with each VERSE, up to ten; or, apart, one whose TOP is 0 to 5 each. */
    private static WhichOneAllKnow asManyAs(boolean verses) {
        String tunes = "tune 0;tune 0;tune 0;tune 0;tune 0;tune 0;";
        return State.read(tunes + (verses
                ? "voice 2 0 0 0 11;voice 2 1 1 0 11;voice 2 1 2 0 11;voice 2 1 3 0 11;voice 2 1 4 0 11;voice 2 1 5 0 11;"
                        + "voice 2 1 11 0 11;voice 2 1 17 0 11;voice 2 1 22 0 11;voice 2 1 21 0 11"
                : "voice 2 0 0 0 0;voice 2 0 2 0 1;voice 2 0 4 0 2;voice 2 0 12 0 3;voice 2 0 14 0 4;voice 2 0 16 0 5"));
    }

    private static void eachHymn() {
        int[] byVerses = {1, 2, 3, 4, 5, 7, 8, 9, 10};
        for (int promise = 33; promise <= 34; promise++) {
            boolean inTruth = promise == 34;
            CHECKS.test(promise, TOLD, "each TUNE of six, each PITCH, 1 to 9 VERSES" + (inTruth ? ", in truth" : ""),
                    () -> {
                for (int told = 1; told < 600; told++) {
                    int pitch = told % 100 / 10;
                    int n = told % 10;
                    if (pitch <= 5 && n >= 1) {
                        sungAsTold(inTruth, true, told, byVerses[n - 1]);
                        sungAsTold(inTruth, false, told, 6 - pitch);
                    }
                }
            });
        }
    }

    private static void sungAsTold(boolean inTruth, boolean verses, int told, int due) {
        WhichOneAllKnow x = asManyAs(verses);
        State.row(x, 0, told);
        if (!inTruth) {
            CHECKS.due("behind(0, 1, 1) of " + told, x.behind(0, 1, 1), due);
            CHECKS.due("behind(0, 1, 0) of " + told, x.behind(0, 1, 0), due);
            return;
        }
        x.done(0, 1);
        CHECKS.due("known(0, 1) behind " + told, x.known(0, 1), due);
        CHECKS.due("TUNES of those who sang " + told, x.voiceOf(verses ? 0 : 5, 5), 1 << told / 100);
    }

    private static void behindRefuses() {
        CHECKS.test(33, "-1; -2; -3; -4; -5 also another what; -6 also if it is WRONG.", "-1, no such SHELF", () ->
                CHECKS.refusedEach(ServicesTest::learners, -1, "behind(_, 0, 0)", (x, s) -> x.behind(s, 0, 0),
                        Checks.outside(0, 7)));
        CHECKS.test(33, "-2; -3; -4;", "-2, a VOICE; -3, NOTHING; -4, n below 0", () -> {
            CHECKS.refused(ServicesTest::learners, -2, "behind(5, 0, 0)", x -> x.behind(5, 0, 0));
            CHECKS.refused(ServicesTest::learners, -3, "behind(3, 0, 0)", x -> x.behind(3, 0, 0));
            CHECKS.refusedEach(ServicesTest::learners, -4, "behind(6, _, 0)", (x, n) -> x.behind(6, n, 0), -1, MIN);
        });
        CHECKS.test(33, "-5 BEYOND: an element that isn't there", "one more than there are: of none, one, forty, 41",
                () -> {
            CHECKS.refusedEach(ServicesTest::learners, -5, "behind(2, _, 0)", (x, n) -> x.behind(2, n, 0), 1, MAX);
            CHECKS.refusedEach(ServicesTest::learners, -5, "behind(4, _, 0)", (x, n) -> x.behind(4, n, 0), 2);
            CHECKS.refusedEach(ServicesTest::learners, -5, "behind(1, _, 0)", (x, n) -> x.behind(1, n, 0), 41);
            CHECKS.refusedEach(ServicesTest::learners, -5, "behind(6, _, 0)", (x, n) -> x.behind(6, n, 0), 42);
        });
        CHECKS.test(33, "-5 also another what;", "just outside of 0 to 2, and the farthest", () ->
                CHECKS.refusedEach(ServicesTest::learners, -5, "behind(6, 1, _)", (x, w) -> x.behind(6, 1, w),
                        Checks.outside(0, 2)));
        CHECKS.test(33, "-6 also if it is WRONG.", "one that may not be, the first or the last; n above 40", () -> {
            CHECKS.refusedEach(ServicesTest::learners, -6, "behind(4, 1, _)", (x, w) -> x.behind(4, 1, w), 0, 1, 2);
            CHECKS.refusedEach(ServicesTest::learners, -6, "behind(6, 41, _)", (x, w) -> x.behind(6, 41, w), 0, 1, 2);
            CHECKS.refused(ServicesTest::lastWrong, -6, "behind(0, 3, 0)", x -> x.behind(0, 3, 0));
            CHECKS.due("behind(0, 2, 0)", lastWrong().behind(0, 2, 0), 2);
        });
        CHECKS.test(33, IN_ORDER, "-1 to -6; another what ahead of WRONG", () -> {
            orders(0, (x, n) -> x.behind(n[0], n[1], n[2]), new int[][] {{0, 0}, {2, 0}, {3, -5}, {-1, -5}});
            CHECKS.refused(ServicesTest::learners, -5, "behind(4, 1, 3)", x -> x.behind(4, 1, 3));
        });
    }

    private static WhichOneAllKnow lastWrong() {
        WhichOneAllKnow x = fresh();
        State.row(x, 0, 2, 1, 201);
        x.image();
        return x;
    }

    private static void done() {
        CHECKS.test(34, "It comes to pass in truth: HYMNS.", "of no HYMNS, at first and behind some", () -> {
            WhichOneAllKnow x = learners();
            CHECKS.due("done(2, 0)", x.done(2, 0), 0);
            CHECKS.due("done(4, 0), of one that may not be", x.done(4, 0), 0);
            x.hymn(0, 0, 1);
            CHECKS.due("done(2, 0)", x.done(2, 0), 1);
            WhichOneAllKnow nobody = new WhichOneAllKnow();
            nobody.row(0, 0, 0);
            CHECKS.due("done(0, 0) of nobody", nobody.done(0, 0), 0);
        });
        CHECKS.test(34, "It comes to pass in truth: HYMNS.", "some, then forty: KNOWS and HYMNS become so, SEED stays",
                () -> {
            WhichOneAllKnow x = learners();
            State.row(x, 0, 2, 1, 109, 2);
            CHECKS.due("done(0, 2)", x.done(0, 2), 2);
            CHECKS.due("status(2)", x.status(2), 2);
            CHECKS.due("voiceOf(1, 5)", x.voiceOf(1, 5), 1);
            CHECKS.due("voiceOf(2, 5)", x.voiceOf(2, 5), 0);
            CHECKS.due("done(0, 4)", x.done(0, 4), 6);
            CHECKS.due("voiceOf(2, 5)", x.voiceOf(2, 5), 1);
            CHECKS.due("status(4)", x.status(4), 3);
            CHECKS.due("done(6, 40)", x.done(6, 40), 46);
            CHECKS.due("done(1, 40)", x.done(1, 40), 86);
            CHECKS.due("status(6)", x.status(6), 1);
            CHECKS.due("element(0, 3), the ROW stays", x.element(0, 3), 2);
        });
        CHECKS.test(34, "It comes to pass in truth: HYMNS.", "as BEHIND it had told", () -> {
            WhichOneAllKnow x = fresh();
            State.row(x, 0, 1, 2, 2);
            int known = x.behind(0, 3, 0);
            x.done(0, 3);
            CHECKS.due("known(0, 1)", x.known(0, 1), known);
            CHECKS.due("known(0, 1)", known, 3);
        });
        CHECKS.test(34, "Elements of a ROW of longs count by their lowest 32 bits", "more above", () -> {
            WhichOneAllKnow x = fresh();
            State.row(x, 0, 4294967298L);
            CHECKS.due("done(0, 1)", x.done(0, 1), 1);
            CHECKS.due("voiceOf(1, 5)", x.voiceOf(1, 5), 1);
        });
    }

    private static void doneRefuses() {
        CHECKS.test(34, "-1; -2; -3; -4; -5; -6 likewise.", "-1, no such SHELF", () ->
                CHECKS.refusedEach(ServicesTest::learners, -1, "done(_, 0)", (x, s) -> x.done(s, 0),
                        Checks.outside(0, 7)));
        CHECKS.test(34, "-2; -3; -4; -5; -6 likewise.", "-2, a VOICE; -3, NOTHING; -4, n below 0", () -> {
            CHECKS.refused(ServicesTest::learners, -2, "done(5, 0)", x -> x.done(5, 0));
            CHECKS.refused(ServicesTest::learners, -3, "done(3, 0)", x -> x.done(3, 0));
            CHECKS.refusedEach(ServicesTest::learners, -4, "done(6, _)", (x, n) -> x.done(6, n), -1, MIN);
        });
        CHECKS.test(34, "-5; -6 likewise.", "-5, one more than there are: of none, one, forty, 41", () -> {
            CHECKS.refusedEach(ServicesTest::learners, -5, "done(2, _)", (x, n) -> x.done(2, n), 1, MAX);
            CHECKS.refusedEach(ServicesTest::learners, -5, "done(4, _)", (x, n) -> x.done(4, n), 2);
            CHECKS.refusedEach(ServicesTest::learners, -5, "done(1, _)", (x, n) -> x.done(1, n), 41);
            CHECKS.refusedEach(ServicesTest::learners, -5, "done(6, _)", (x, n) -> x.done(6, n), 42);
        });
        CHECKS.test(34, "-6 likewise.", "WRONG, the last one, so that none comes to pass; n above 40", () -> {
            CHECKS.refused(ServicesTest::learners, -6, "done(4, 1)", x -> x.done(4, 1));
            CHECKS.refused(ServicesTest::lastWrong, -6, "done(0, 3)", x -> x.done(0, 3));
            CHECKS.refused(ServicesTest::learners, -6, "done(6, 41)", x -> x.done(6, 41));
            CHECKS.refused(ServicesTest::longRow, -6, "done(0, 160)", x -> x.done(0, 160));
        });
        CHECKS.test(34, IN_ORDER, "-1 to -6", () -> orders(0, (x, n) -> x.done(n[0], n[1]), new int[][] {{0, 0}}));
    }

    private static void hymn() {
        CHECKS.test(35, "A HYMN of n VERSES is sung to VERSE n less 1.", "1 to 9: one more sings with each", () -> {
            for (int n = 1; n <= 9; n++) {
                // 1 sings at VERSE 0, and one more with each VERSE, 11 at VERSE 5 as well, NEAR 4
                WhichOneAllKnow x = State.read("tune 0;voice 1 0 0 0 11;voice 2 1 1 0 11;voice 2 1 2 0 11;voice 2 1 3 0 11;"
                        + "voice 2 1 4 0 11;voice 2 1 5 0 11;voice 2 1 17 0 11;voice 2 1 22 0 11;voice 2 1 21 0 11;knows 0 0");
                x.voice(2, 1, 11, 0, 11);
                int[] due = {1, 2, 3, 4, 5, 7, 8, 9, 10};
                CHECKS.due("hymn(0, 0, " + n + ")", x.hymn(0, 0, n), due[n - 1]);
                CHECKS.due("known(0, 1)", x.known(0, 1), due[n - 1]);
                CHECKS.due("status(2)", x.status(2), 1);
            }
        });
        CHECKS.test(35, SUNG, "who joins in learns it, and no other TUNE", () -> {
            WhichOneAllKnow x = fresh();
            CHECKS.due("hymn(0, 0, 1)", x.hymn(0, 0, 1), 1);
            CHECKS.due("hymn(1, 5, 9)", x.hymn(1, 5, 9), 0);
            CHECKS.due("hymn(0, 5, 2)", x.hymn(0, 5, 2), 2);
            CHECKS.due("voiceOf(1, 5)", x.voiceOf(1, 5), 1);
            CHECKS.due("hymn(0, 0, 1)", x.hymn(0, 0, 1), 2);
            CHECKS.due("status(2)", x.status(2), 4);
        });
        CHECKS.test(35, SUNG, "not who is WRONG or MIMES, or out of reach", () -> {
            WhichOneAllKnow y = State.read("tune 0;tune 0;voice 3 0 0 0 11;voice 5 0 23 0 11;voice 2 0 5 0 11;"
                    + "voice 2 0 12 0 4;knows 2 0");
            CHECKS.due("hymn(1, 5, 3)", y.hymn(1, 5, 3), 1);
            int[] due = {0, 0, 3, 0};
            for (int v = 0; v < 4; v++) {
                CHECKS.due("voiceOf(" + v + ", 5)", y.voiceOf(v, 5), due[v]);
            }
        });
        CHECKS.test(35, SUNG, "at its last VERSE alone, and who KNOWS it goes on so", () -> {
            // the ASTRAY is RIGHT at VERSE 0 and WRONG at 1
            WhichOneAllKnow z = State.read("tune 0;voice 3 0 0 0 11;voice 4 0 1 2 11;knows 1 0");
            CHECKS.due("hymn(0, 0, 2)", z.hymn(0, 0, 2), 0);
            CHECKS.due("voiceOf(1, 5)", z.voiceOf(1, 5), 1);
            // nobody is led at VERSE 0; at 1 the BOOMERS lead the VOICE astray
            WhichOneAllKnow y = State.read("tune 0;voice 3 0 0 0 11;voice 0 0 1 3 11");
            CHECKS.due("hymn(0, 0, 2)", y.hymn(0, 0, 2), 0);
            CHECKS.due("voiceOf(1, 5)", y.voiceOf(1, 5), 0);
        });
        CHECKS.test(35, SUNG, "where nobody is, and all of twelve, the sixth TUNE", () -> {
            WhichOneAllKnow nobody = State.read("tune 0");
            CHECKS.due("hymn(0, 0, 9)", nobody.hymn(0, 0, 9), 0);
            CHECKS.due("status(2)", nobody.status(2), 1);
            WhichOneAllKnow x = State.read("tune 0;tune 0;tune 0;tune 0;tune 0;tune 0");
            for (int v = 0; v < 12; v++) {
                x.voice(2, 0, v, 0, 11);
            }
            CHECKS.due("hymn(5, 5, 1)", x.hymn(5, 5, 1), 12);
            CHECKS.due("known(0, 2)", x.known(0, 2), 32);
        });
    }

    private static void hymnRefuses() {
        CHECKS.test(35, "how many sang RIGHT at the last. -1; -6.", "-1, no such TUNE", () -> {
            CHECKS.refusedEach(ServicesTest::learners, -1, "hymn(_, 0, 1)", (x, t) -> x.hymn(t, 0, 1),
                    Checks.outside(0, 1));
            CHECKS.refused(WhichOneAllKnow::new, -1, "hymn(0, 0, 1)", x -> x.hymn(0, 0, 1));
        });
        CHECKS.test(35, "a number that may not be (a PITCH, a VERSE", "-6, PITCH just outside of 0 to 5", () ->
                CHECKS.refusedEach(ServicesTest::learners, -6, "hymn(0, _, 1)", (x, p) -> x.hymn(0, p, 1),
                        Checks.outside(0, 5)));
        CHECKS.test(35, "and the VERSES (1 to 9)", "-6, just outside, and the farthest", () ->
                CHECKS.refusedEach(ServicesTest::learners, -6, "hymn(0, 0, _)", (x, n) -> x.hymn(0, 0, n),
                        Checks.outside(1, 9)));
        CHECKS.test(35, IN_ORDER, "-1 ahead of -6", () ->
                CHECKS.order(ServicesTest::learners, 0, "hymn", (x, n) -> x.hymn(n[0], n[1], n[2]),
                        new int[][] {{0, 0}, {2, -1}, {-1, -1}}, new int[][] {{0, 0}, {6, -6}, {-1, -6}},
                        new int[][] {{1, 0}, {0, -6}, {10, -6}}));
    }

    /** The DRAWS as the document tells them, in longs, so that nothing wraps but where it is said to. */
    private static final class Draws {
        private long seed;

        Draws(int first) {
            seed = first;
        }

        int below(int n) {
            seed = (seed * 1103515245L + 12345L) & 0xffffffffL;
            return (int) ((seed >> 16) % n);
        }
    }

    /** JOINING with a 0 who are NEAR nobody: each learns what is sung in his reach. */
    private static void drawn(int first) {
        WhichOneAllKnow x = State.read("tune 0;tune 6;tune 3;voice 2 0 0 0 11;voice 2 0 2 0 10;voice 2 0 4 0 9;"
                + "voice 2 0 12 0 8;voice 2 0 14 0 5;voice 2 0 16 0 1");
        int[] tops = {11, 10, 9, 8, 5, 1};
        int[] highs = {0, 6, 3};
        int[] knows = new int[6];
        Draws draws = new Draws(first);
        x.seed(first);
        for (int n = 1; n <= 3; n++) {
            for (int i = 0; i < n; i++) {
                int tune = draws.below(3);
                int pitch = draws.below(6);
                draws.below(9);
                for (int v = 0; v < 6; v++) {
                    knows[v] |= highs[tune] + pitch <= tops[v] ? 1 << tune : 0;
                }
            }
            int known = 0;
            for (int v = 0; v < 6; v++) {
                known += Integer.bitCount(knows[v]);
            }
            CHECKS.due("years(" + n + ") from " + first, x.years(n), known);
            CHECKS.due("status(6) from " + first, x.status(6), (int) draws.seed);
            for (int v = 0; v < 6; v++) {
                CHECKS.due("voiceOf(" + v + ", 5) from " + first, x.voiceOf(v, 5), knows[v]);
            }
        }
        CHECKS.due("status(2)", x.status(2), 6);
    }

    private static void years() {
        CHECKS.test(36, DRAW, "from 1, 0, -1, the greatest, the least, and others", () -> {
            for (int first : new int[] {1, 0, -1, MAX, MIN, 5, 77, 1000000, -1103515245}) {
                drawn(first);
            }
        });
        CHECKS.test(36, "its upper 16 bits, no sign, modulo n", "SEEDS that become less than 0", () -> {
            for (int first = 0; first < 60; first++) {
                drawn(first * 71582788);
            }
        });
        CHECKS.test(36, "VERSES 1 and a DRAW below 9", "1 to 9, along a ROW of PLACES", () -> {
            int[] sing = {1, 2, 3, 4, 5, 7, 8, 9, 10};
            boolean[] seen = new boolean[9];
            for (int first = 0; first < 80; first++) {
                WhichOneAllKnow x = State.read("tune 0;voice 1 0 0 0 11;voice 2 1 1 0 11;voice 2 1 2 0 11;voice 2 1 3 0 11;"
                        + "voice 2 1 4 0 11;voice 2 1 5 0 11;voice 2 1 17 0 11;voice 2 1 22 0 11;voice 2 1 21 0 11;"
                        + "voice 2 1 11 0 11;knows 0 0");
                x.seed(first);
                Draws draws = new Draws(first);
                draws.below(1);
                draws.below(6);
                int verses = 1 + draws.below(9);
                seen[verses - 1] = true;
                CHECKS.due("years(1) from " + first + ", VERSES " + verses, x.years(1), sing[verses - 1]);
            }
            for (int i = 0; i < 9; i++) {
                CHECKS.due("VERSES " + (i + 1) + " were drawn", seen[i] ? 1 : 0, 1);
            }
        });
        CHECKS.test(36, "PITCH a DRAW below 6", "0 to 5, by who is in reach", () -> {
            boolean[] seen = new boolean[6];
            for (int first = 0; first < 60; first++) {
                WhichOneAllKnow x = State.read("tune 0;voice 2 0 0 0 0;voice 2 0 1 0 1;voice 2 0 2 0 2;voice 2 0 3 0 3;"
                        + "voice 2 0 4 0 4;voice 2 0 5 0 5");
                x.seed(first);
                Draws draws = new Draws(first);
                draws.below(1);
                int pitch = draws.below(6);
                seen[pitch] = true;
                CHECKS.due("years(1) from " + first + ", PITCH " + pitch, x.years(1), 6 - pitch);
            }
            for (int i = 0; i < 6; i++) {
                CHECKS.due("PITCH " + i + " was drawn", seen[i] ? 1 : 0, 1);
            }
        });
        CHECKS.test(36, "a DRAW below how many TUNES", "one to six of them", () -> {
            for (int tunes = 1; tunes <= 6; tunes++) {
                for (int first = 0; first < 20; first++) {
                    WhichOneAllKnow x = State.read("voice 2 0 0 0 11");
                    for (int t = 0; t < tunes; t++) {
                        x.tune(0);
                    }
                    x.seed(first);
                    x.years(1);
                    CHECKS.due("voiceOf(0, 5) from " + first, x.voiceOf(0, 5), 1 << new Draws(first).below(tunes));
                }
            }
        });
        CHECKS.test(36, "YEARS, n HYMNS (1 to 60)", "one and sixty, where nobody is, too", () -> {
            WhichOneAllKnow x = State.read("tune 0");
            CHECKS.due("years(60)", x.years(60), 0);
            CHECKS.due("status(2)", x.status(2), 60);
            CHECKS.due("years(1)", x.years(1), 0);
            CHECKS.due("status(2)", x.status(2), 61);
            Draws draws = new Draws(1);
            for (int i = 0; i < 61 * 3; i++) {
                draws.below(1);
            }
            CHECKS.due("status(6)", x.status(6), (int) draws.seed);
        });
        CHECKS.test(36, "YEARS come to pass in truth, SEED too.", "KNOWS, HYMNS, SEED; all come back by restore()",
                () -> {
            WhichOneAllKnow x = State.read("tune 0;voice 2 0 0 0 11");
            x.image();
            CHECKS.due("years(1)", x.years(1), 1);
            CHECKS.due("voiceOf(0, 5)", x.voiceOf(0, 5), 1);
            CHECKS.due("status(2)", x.status(2), 1);
            int seed = x.status(6);
            x.restore();
            CHECKS.due("status(6)", x.status(6), 1);
            x.years(1);
            CHECKS.due("status(6)", x.status(6), seed);
        });
    }

    private static void yearsRefuses() {
        CHECKS.test(36, "KNOWN together. -5 no TUNES; -6.", "-5, with VOICES or without; SEED stays", () -> {
            CHECKS.refused(WhichOneAllKnow::new, -5, "years(1)", x -> x.years(1));
            CHECKS.refused(() -> State.read("voice 0 0 0 0 0"), -5, "years(60)", x -> x.years(60));
        });
        CHECKS.test(36, "n HYMNS (1 to 60)", "-6, just outside, and the farthest; SEED stays", () ->
                CHECKS.refusedEach(ServicesTest::learners, -6, "years(_)", (x, n) -> x.years(n),
                        Checks.outside(1, 60)));
        CHECKS.test(36, IN_ORDER, "-5 ahead of -6", () ->
                CHECKS.refusedEach(WhichOneAllKnow::new, -5, "years(_)", (x, n) -> x.years(n), Checks.outside(1, 60)));
    }

    private static void seed() {
        CHECKS.test(37, "SEED becomes v: what it was (nothing is refused).", "any int: 0, -1, the greatest, the least",
                () -> {
            WhichOneAllKnow x = new WhichOneAllKnow();
            int was = 1;
            for (int v : new int[] {-5, MIN, 0, MAX, -1, 1}) {
                CHECKS.due("seed(" + v + ")", x.seed(v), was);
                CHECKS.due("status(6)", x.status(6), v);
                was = v;
            }
            CHECKS.noneRefused(x);
        });
        CHECKS.test(37, DRAW, "the product and the sum wrap around", () -> {
            WhichOneAllKnow x = State.read("tune 0");
            for (int first : new int[] {0, MAX, MIN, -1}) {
                x.seed(first);
                x.years(1);
                CHECKS.due("status(6) three DRAWS from " + first, x.status(6), threeFrom(first));
            }
        });
    }

    private static int threeFrom(int first) {
        Draws draws = new Draws(first);
        draws.below(1);
        draws.below(1);
        draws.below(1);
        return (int) draws.seed;
    }
}

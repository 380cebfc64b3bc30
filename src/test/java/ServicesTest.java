/** Promises 32 to 37: SERVICES told and in truth, YEARS, SEED. */
public final class ServicesTest {
    private static final Checks CHECKS = new Checks();

    public static void main(String[] args) {
        CHECKS.test("promise 32: judge", ServicesTest::judge);
        CHECKS.test("promise 32: judge refuses", ServicesTest::judgeRefuses);
        CHECKS.test("promise 33: behind", ServicesTest::behind);
        CHECKS.test("promise 33: behind refuses", ServicesTest::behindRefuses);
        CHECKS.test("promise 34: done", ServicesTest::done);
        CHECKS.test("promise 34: done refuses", ServicesTest::doneRefuses);
        CHECKS.test("promise 35: hymn", ServicesTest::hymn);
        CHECKS.test("promise 35: hymn refuses", ServicesTest::hymnRefuses);
        CHECKS.test("promise 36: years draws", ServicesTest::years);
        CHECKS.test("promise 36: years sings in truth", ServicesTest::yearsSing);
        CHECKS.test("promise 36: years refuses", ServicesTest::yearsRefuses);
        CHECKS.test("promise 37: seed", ServicesTest::seed);
        CHECKS.close();
    }

    /**
     * Two TUNES; LEADING who KNOWS TUNE 0, and two BOLD 3 behind him who learn it: at VERSE v the first
     * v + 1 sing. SHELF 6 a ROW of 41 ones, SHELF 5 a VOICE, SHELF 4 one element.
     */
    private static WhichOneAllKnow learners() {
        WhichOneAllKnow x = State.read("tune 0;tune 7;voice 1 0 0 0 11;voice 0 0 1 3 11;voice 0 0 2 3 11;knows 0 0");
        x.row(6, 2, 41);
        for (int i = 0; i < 41; i++) {
            x.set(6, i, 1);
        }
        x.show(5, 0);
        x.row(4, 0, 1);
        x.set(4, 0, 60);
        return x;
    }

    private static int judged(long... told) {
        WhichOneAllKnow x = learners();
        State.row(x, 0, told);
        return x.judge(0, told.length);
    }

    private static void judge() {
        CHECKS.due("of no HYMNS", judged(), -1);
        CHECKS.due("1 9 51 59 101 159", judged(1, 9, 51, 59, 101, 159), -1);
        CHECKS.due("no VERSES", judged(1, 0), 1);
        CHECKS.due("no VERSES, TUNE 1", judged(100), 0);
        CHECKS.due("PITCH 6", judged(1, 2, 61), 2);
        CHECKS.due("PITCH 9", judged(199, 61), 0);
        CHECKS.due("TUNE 2", judged(1, 201, 61), 1);
        CHECKS.due("TUNE 10", judged(1001), 0);
        CHECKS.due("below 0", judged(-1), 0);
        CHECKS.due("far below 0", judged(-159), 0);
        CHECKS.due("lowest 32 bits", judged(4294967297L, 4294967296L), 1);
        WhichOneAllKnow x = learners();
        CHECKS.due("judge(6, 40)", x.judge(6, 40), -1);
        x.set(6, 39, 0);
        CHECKS.due("judge(6, 40)", x.judge(6, 40), 39);
        CHECKS.due("judge(6, 39)", x.judge(6, 39), -1);
        CHECKS.due("judge(6, 0)", x.judge(6, 0), -1);
    }

    private static void judgeRefuses() {
        CHECKS.refused(ServicesTest::learners, -11, "judge(8, -1)", x -> x.judge(8, -1));
        CHECKS.refused(ServicesTest::learners, -11, "judge(-1, 0)", x -> x.judge(-1, 0));
        CHECKS.refused(ServicesTest::learners, -12, "judge(5, -1)", x -> x.judge(5, -1));
        CHECKS.refused(ServicesTest::learners, -13, "judge(3, -1)", x -> x.judge(3, -1));
        CHECKS.refused(ServicesTest::learners, -14, "judge(6, -1)", x -> x.judge(6, -1));
        CHECKS.refused(ServicesTest::learners, -15, "judge(4, 2)", x -> x.judge(4, 2));
        CHECKS.refused(ServicesTest::learners, -15, "judge(6, 42)", x -> x.judge(6, 42));
        CHECKS.refused(ServicesTest::learners, -16, "judge(6, 41)", x -> x.judge(6, 41));
    }

    private static void told(int known, int right, int caught, long... service) {
        int[] due = {known, right, caught};
        WhichOneAllKnow x = learners();
        State.row(x, 0, service);
        String before = State.of(x);
        for (int what = 0; what <= 2; what++) {
            CHECKS.due("behind(0, " + service.length + ", " + what + ")", x.behind(0, service.length, what), due[what]);
        }
        WhichOneAllKnow y = learners();
        State.row(y, 0, service);
        if (!State.of(y).equals(before)) {
            CHECKS.fault("behind changed something");
        }
    }

    private static void behind() {
        told(1, 0, 0);
        // VERSE 0: 1 of 3 sings; VERSE 1: 2, and whoever learned it sings it at VERSE 0 from then on
        told(1, 1, 0, 1);
        told(2, 2, 1, 2);
        told(2, 4, 2, 2, 1);
        told(2, 5, 2, 1, 2, 1);
        told(3, 5, 2, 2, 2);
        told(3, 3, 1, 9);
        told(3, 3, 1, 9, 109);
        told(1, 0, 0, 109);
        WhichOneAllKnow nobody = State.read("tune 0");
        State.row(nobody, 0, 1, 59);
        CHECKS.due("of nobody, RIGHT", nobody.behind(0, 2, 1), 0);
        CHECKS.due("of nobody, caught", nobody.behind(0, 2, 2), 2);
        CHECKS.due("of 40 HYMNS", learners().behind(6, 40, 1), 40);
    }

    private static void behindRefuses() {
        CHECKS.refused(ServicesTest::learners, -1, "behind(8, -1, 3)", x -> x.behind(8, -1, 3));
        CHECKS.refused(ServicesTest::learners, -2, "behind(5, -1, 3)", x -> x.behind(5, -1, 3));
        CHECKS.refused(ServicesTest::learners, -3, "behind(3, -1, 3)", x -> x.behind(3, -1, 3));
        CHECKS.refused(ServicesTest::learners, -4, "behind(6, -1, 3)", x -> x.behind(6, -1, 3));
        CHECKS.refused(ServicesTest::learners, -5, "behind(6, 42, 0)", x -> x.behind(6, 42, 0));
        CHECKS.refused(ServicesTest::learners, -5, "behind(6, 41, 3)", x -> x.behind(6, 41, 3));
        CHECKS.refused(ServicesTest::learners, -5, "behind(4, 1, -1)", x -> x.behind(4, 1, -1));
        CHECKS.refused(ServicesTest::learners, -6, "behind(6, 41, 0)", x -> x.behind(6, 41, 0));
        CHECKS.refused(ServicesTest::learners, -6, "behind(4, 1, 0)", x -> x.behind(4, 1, 0));
    }

    private static void done() {
        WhichOneAllKnow x = learners();
        State.row(x, 0, 2, 1, 109, 2);
        CHECKS.due("done(0, 0)", x.done(0, 0), 0);
        CHECKS.due("done(0, 2)", x.done(0, 2), 2);
        CHECKS.due("status(2)", x.status(2), 2);
        CHECKS.due("VOICE 1", x.voiceOf(1, 5), 1);
        CHECKS.due("VOICE 2", x.voiceOf(2, 5), 0);
        CHECKS.due("done(0, 4)", x.done(0, 4), 6);
        CHECKS.due("VOICE 2", x.voiceOf(2, 5), 1);
        CHECKS.due("status(4)", x.status(4), 3);
        CHECKS.due("done(6, 40)", x.done(6, 40), 46);
        CHECKS.due("status(6)", x.status(6), 1);
    }

    private static void doneRefuses() {
        CHECKS.refused(ServicesTest::learners, -1, "done(8, -1)", x -> x.done(8, -1));
        CHECKS.refused(ServicesTest::learners, -2, "done(5, -1)", x -> x.done(5, -1));
        CHECKS.refused(ServicesTest::learners, -3, "done(3, -1)", x -> x.done(3, -1));
        CHECKS.refused(ServicesTest::learners, -4, "done(6, -1)", x -> x.done(6, -1));
        CHECKS.refused(ServicesTest::learners, -5, "done(6, 42)", x -> x.done(6, 42));
        CHECKS.refused(ServicesTest::learners, -6, "done(6, 41)", x -> x.done(6, 41));
        CHECKS.refused(ServicesTest::learners, -6, "done(4, 1)", x -> x.done(4, 1));
    }

    private static void hymn() {
        WhichOneAllKnow x = learners();
        CHECKS.due("hymn(0, 0, 1)", x.hymn(0, 0, 1), 1);
        CHECKS.due("hymn(1, 5, 9)", x.hymn(1, 5, 9), 0);
        CHECKS.due("hymn(0, 5, 2)", x.hymn(0, 5, 2), 2);
        CHECKS.due("VOICE 1", x.voiceOf(1, 5), 1);
        CHECKS.due("hymn(0, 0, 1)", x.hymn(0, 0, 1), 2);
        CHECKS.due("status(2)", x.status(2), 4);
        // who sings WRONG or MIMES doesn't learn it; the JOINING does
        WhichOneAllKnow y = State.read("tune 0;tune 0;voice 3 0 0 0 11;voice 5 0 23 0 11;voice 2 0 5 0 11;knows 2 0");
        CHECKS.due("hymn(1, 0, 3)", y.hymn(1, 0, 3), 1);
        CHECKS.due("BOOMER", y.voiceOf(0, 5), 0);
        CHECKS.due("MIME", y.voiceOf(1, 5), 0);
        CHECKS.due("JOINING", y.voiceOf(2, 5), 3);
        // only the last VERSE counts: the ASTRAY is RIGHT at VERSE 0 and WRONG at 1
        WhichOneAllKnow z = State.read("tune 0;voice 3 0 0 0 11;voice 4 0 1 2 11;knows 1 0");
        CHECKS.due("hymn(0, 0, 2)", z.hymn(0, 0, 2), 0);
        CHECKS.due("he KNOWS it still", z.voiceOf(1, 5), 1);
    }

    private static void hymnRefuses() {
        CHECKS.refused(ServicesTest::learners, -1, "hymn(2, 6, 0)", x -> x.hymn(2, 6, 0));
        CHECKS.refused(ServicesTest::learners, -1, "hymn(-1, 0, 1)", x -> x.hymn(-1, 0, 1));
        CHECKS.refused(ServicesTest::learners, -6, "hymn(0, 6, 1)", x -> x.hymn(0, 6, 1));
        CHECKS.refused(ServicesTest::learners, -6, "hymn(0, -1, 1)", x -> x.hymn(0, -1, 1));
        CHECKS.refused(ServicesTest::learners, -6, "hymn(0, 0, 0)", x -> x.hymn(0, 0, 0));
        CHECKS.refused(ServicesTest::learners, -6, "hymn(0, 0, 10)", x -> x.hymn(0, 0, 10));
        CHECKS.refused(ServicesTest::learners, -6, "hymn(0, 0, -1)", x -> x.hymn(0, 0, -1));
    }

    private static int drawn = 0;

    private static int draw(int below) {
        drawn = drawn * 1103515245 + 12345;
        return (drawn >>> 16) % below;
    }

    /** JOINING with a 0 who are NEAR nobody: each learns what is sung in his reach. */
    private static void years() {
        int[] seeds = {1, 0, -1, 5, 1000000, Integer.MIN_VALUE, Integer.MAX_VALUE, 77};
        for (int first : seeds) {
            WhichOneAllKnow x = State.read("tune 0;tune 6;tune 3;voice 2 0 0 0 11;voice 2 0 2 0 10;voice 2 0 4 0 9;"
                    + "voice 2 0 12 0 8;voice 2 0 14 0 5;voice 2 0 16 0 1");
            int[] tops = {11, 10, 9, 8, 5, 1};
            int[] highs = {0, 6, 3};
            int[] knows = new int[6];
            x.seed(first);
            drawn = first;
            for (int n = 1; n <= 3; n++) {
                for (int i = 0; i < n; i++) {
                    int tune = draw(3);
                    int pitch = draw(6);
                    draw(9);
                    for (int v = 0; v < 6; v++) {
                        knows[v] |= highs[tune] + pitch <= tops[v] ? 1 << tune : 0;
                    }
                }
                int known = 0;
                for (int v = 0; v < 6; v++) {
                    known += Integer.bitCount(knows[v]);
                }
                CHECKS.due("years(" + n + ") from " + first, x.years(n), known);
                CHECKS.due("SEED from " + first, x.status(6), drawn);
                for (int v = 0; v < 6; v++) {
                    CHECKS.due("VOICE " + v + " from " + first, x.voiceOf(v, 5), knows[v]);
                }
            }
            CHECKS.due("HYMNS", x.status(2), 6);
        }
    }

    /** Along a ROW of PLACES the TUNE comes one VOICE further with each VERSE; how far tells the VERSES. */
    private static void yearsSing() {
        for (int first = 0; first < 20; first++) {
            WhichOneAllKnow x = State.read("tune 0;voice 1 0 0 0 11;voice 2 1 1 0 11;voice 2 1 2 0 11;"
                    + "voice 2 1 3 0 11;voice 2 1 4 0 11;voice 2 1 5 0 11;voice 2 1 11 0 11;knows 0 0");
            x.seed(first);
            drawn = first;
            draw(1);
            draw(6);
            int verses = 1 + draw(9);
            // PLACE 11 is NEAR 4 as well as 5
            int sing = verses <= 5 ? verses : 7;
            CHECKS.due("years(1) from " + first, x.years(1), sing);
        }
        WhichOneAllKnow x = State.read("tune 0");
        CHECKS.due("years(60)", x.years(60), 0);
        CHECKS.due("HYMNS", x.status(2), 60);
    }

    private static void yearsRefuses() {
        CHECKS.refused(WhichOneAllKnow::new, -5, "years(0) of no TUNES", x -> x.years(0));
        CHECKS.refused(ServicesTest::learners, -6, "years(0)", x -> x.years(0));
        CHECKS.refused(ServicesTest::learners, -6, "years(61)", x -> x.years(61));
        CHECKS.refused(ServicesTest::learners, -6, "years(-1)", x -> x.years(-1));
    }

    private static void seed() {
        WhichOneAllKnow x = new WhichOneAllKnow();
        CHECKS.due("seed(-5)", x.seed(-5), 1);
        CHECKS.due("seed(MIN)", x.seed(Integer.MIN_VALUE), -5);
        CHECKS.due("seed(0)", x.seed(0), Integer.MIN_VALUE);
        CHECKS.due("status(6)", x.status(6), 0);
        for (int number = 11; number <= 17; number++) {
            CHECKS.due("status(" + number + ")", x.status(number), 0);
        }
    }
}

/** Promises 29 and 30: which TUNE it was by what was heard, and who had changed PLACES. */
public final class HeardTest {
    private static final int NONE = WhichOneAllKnow.NONE;
    private static final String FIT = "TUNES (bits) that FIT a ROW: counts of those HEARD at VERSES 0, 1, .. at a PITCH.";
    private static final String CHANGED =
            "which two VOICES, had they changed PLACES, would make a TUNE FIT a ROW at a PITCH: the first two by numbers";
    private static final String IN_ORDER = "the first that fits, in this order";
    private static final Checks CHECKS = new Checks();

    public static void main(String[] args) {
        fits();
        fitsCounts();
        fitsRefuses();
        changed();
        changedRefuses();
        CHECKS.close();
    }

    /** TUNE 0 (HIGH 8) is heard from 1, then 2; TUNE 1 from nobody; of TUNE 2 a MIME alone hears nobody. */
    private static WhichOneAllKnow heard() {
        return State.read("tune 8;tune 0;tune 0;voice 1 0 0 0 10;voice 0 0 1 3 9;voice 5 1 6 0 11;knows 0 0");
    }

    private static int fit(WhichOneAllKnow x, int pitch, long... counts) {
        State.row(x, 0, counts);
        return x.fits(0, counts.length, pitch);
    }

    private static void fits() {
        CHECKS.test(29, FIT, "at the PITCHES 0 to 5", () -> {
            int[] due = {1, 1, 0, 0, 0, 0};
            int[] dueAlone = {0, 0, 1, 0, 0, 0};
            for (int pitch = 0; pitch <= 5; pitch++) {
                CHECKS.due("1 2 2 at PITCH " + pitch, fit(heard(), pitch, 1, 2, 2), due[pitch]);
                CHECKS.due("1 1 1 at PITCH " + pitch, fit(heard(), pitch, 1, 1, 1), dueAlone[pitch]);
                CHECKS.due("0 0 at PITCH " + pitch, fit(heard(), pitch, 0, 0), pitch >= 3 ? 7 : 6);
            }
        });
        CHECKS.test(29, FIT, "every element counts, the first and the last", () -> {
            CHECKS.due("1 2 3", fit(heard(), 0, 1, 2, 3), 0);
            CHECKS.due("0 2 2", fit(heard(), 0, 0, 2, 2), 0);
            CHECKS.due("1 1 2", fit(heard(), 0, 1, 1, 2), 0);
        });
        CHECKS.test(29, "HEARD: those who sing RIGHT or WRONG.", "a BOOMER is, a MIME is not", () -> {
            CHECKS.due("a BOOMER", fit(State.read("tune 0;voice 3 0 0 0 11"), 0, 1, 1), 1);
            CHECKS.due("a MIME", fit(State.read("tune 0;voice 5 0 0 0 11"), 0, 0, 0), 1);
            CHECKS.due("a MIME for one", fit(State.read("tune 0;voice 5 0 0 0 11"), 0, 1), 0);
            CHECKS.due("RIGHT and WRONG together",
                    fit(State.read("tune 0;voice 3 0 0 0 11;voice 2 0 23 0 11;voice 5 0 12 0 11"), 0, 2, 2), 1);
        });
        CHECKS.test(29, "TUNES that FIT the first n elements (1 to 40)", "what stands behind them doesn't count",
                () -> {
            WhichOneAllKnow x = heard();
            State.row(x, 0, 1, 2, 99);
            CHECKS.due("fits(0, 1, 0)", x.fits(0, 1, 0), 1);
            CHECKS.due("fits(0, 2, 0)", x.fits(0, 2, 0), 1);
            CHECKS.due("fits(0, 3, 0)", x.fits(0, 3, 0), 0);
        });
        CHECKS.test(29, "TUNES that FIT the first n elements (1 to 40)", "forty, of a ROW of 40 and of 160", () -> {
            for (int size : new int[] {40, 160}) {
                WhichOneAllKnow x = heard();
                x.row(0, 0, size);
                CHECKS.due("fits(0, 40, 5)", x.fits(0, 40, 5), 7);
                x.set(0, 39, 1);
                CHECKS.due("fits(0, 40, 5), the 40th is 1", x.fits(0, 40, 5), 0);
                CHECKS.due("fits(0, 39, 5)", x.fits(0, 39, 5), 7);
            }
        });
        CHECKS.test(29, FIT, "going round for ever, to VERSE 39", () -> {
            // HEARD are BOOMER and ASTRAY at VERSE 0, then all three, RIGHT in turn
            WhichOneAllKnow x = HymnTest.goingRound();
            x.row(0, 1, 40);
            for (int i = 0; i < 40; i++) {
                x.set(0, i, i == 0 ? 2 : 3);
            }
            CHECKS.due("fits(0, 40, 0)", x.fits(0, 40, 0), 1);
        });
        CHECKS.test(29, "TUNES that FIT", "of none, and all six", () -> {
            CHECKS.due("without TUNES", fit(new WhichOneAllKnow(), 0, 0), 0);
            WhichOneAllKnow x = State.read("tune 0;tune 1;tune 2;tune 3;tune 4;tune 5");
            CHECKS.due("of nobody, 0", fit(x, 0, 0, 0, 0), 63);
            CHECKS.due("of nobody, 1", fit(x, 0, 1), 0);
            x.voice(2, 0, 0, 0, 9);
            CHECKS.due("the first to the sixth in reach", fit(x, 4, 1), 63);
            CHECKS.due("the sixth out of reach", fit(x, 5, 1), 31);
            CHECKS.due("the sixth alone silent", fit(x, 5, 0), 32);
        });
    }

    private static void fitsCounts() {
        CHECKS.test(29, FIT, "all of twelve; one more is none", () -> {
            WhichOneAllKnow x = State.read("tune 0");
            for (int v = 0; v < 12; v++) {
                x.voice(v % 2 + 2, 0, v, 0, 11);
            }
            CHECKS.due("12", fit(x, 0, 12, 12), 1);
            CHECKS.due("13", fit(x, 0, 13), 0);
            CHECKS.due("11", fit(x, 0, 11), 0);
        });
        CHECKS.test(29, "Elements of a ROW of longs count by their lowest 32 bits", "more above, and less", () -> {
            CHECKS.due("2^32 + 1, 2 - 2^32", fit(heard(), 0, 4294967297L, -4294967294L), 1);
            CHECKS.due("2^31 + 1", fit(heard(), 0, 2147483649L), 0);
            CHECKS.due("2^32 - 1", fit(heard(), 0, 4294967295L), 0);
        });
        CHECKS.test(29, FIT, "counts below 0 FIT none; what was cut counts as it is kept", () -> {
            CHECKS.due("-1", fit(heard(), 0, -1), 0);
            CHECKS.due("the least", fit(heard(), 0, Long.MIN_VALUE), 6);
            WhichOneAllKnow x = heard();
            x.row(0, 0, 1);
            x.set(0, 0, 257);
            CHECKS.due("a byte of 257", x.fits(0, 1, 0), 1);
            x.row(0, 1, 1);
            x.set(0, 0, 65536 + 1);
            CHECKS.due("a short of 65537", x.fits(0, 1, 0), 1);
        });
    }

    /** SHELF 0 41 bytes, 1 three shorts, 2 a VOICE, 3 NOTHING, 4 an empty ROW, 5 forty, 6 160. */
    private static WhichOneAllKnow told() {
        WhichOneAllKnow x = heard();
        x.row(0, 0, 41);
        x.row(1, 1, 3);
        x.show(2, 0);
        x.row(4, 2, 0);
        x.row(5, 3, 40);
        x.row(6, 3, 160);
        x.image();
        x.act(2, 2, 1);
        return x;
    }

    private static void fitsRefuses() {
        CHECKS.test(29, "-1; -2; -3; -4 n; -5 fewer elements; -6 n not 1 to 40, a PITCH.", "-1, no such SHELF", () ->
                CHECKS.refusedEach(HeardTest::told, -1, "fits(_, 1, 0)", (x, s) -> x.fits(s, 1, 0),
                        Checks.outside(0, 7)));
        CHECKS.test(29, "a SHELF that holds a VOICE where a ROW is wanted", "-2", () ->
                CHECKS.refused(HeardTest::told, -2, "fits(2, 1, 0)", x -> x.fits(2, 1, 0)));
        CHECKS.test(29, "-3 NOTHING: a SHELF that holds NOTHING.", "-3", () ->
                CHECKS.refused(HeardTest::told, -3, "fits(3, 1, 0)", x -> x.fits(3, 1, 0)));
        CHECKS.test(29, "-4 n; -5 fewer elements;", "-4, -1 and the least, of an empty ROW, too", () -> {
            CHECKS.refusedEach(HeardTest::told, -4, "fits(0, _, 0)", (x, n) -> x.fits(0, n, 0), -1, Integer.MIN_VALUE);
            CHECKS.refusedEach(HeardTest::told, -4, "fits(4, _, 0)", (x, n) -> x.fits(4, n, 0), -1);
        });
        CHECKS.test(29, "-5 fewer elements;", "one more than there are: of none, three, 41, 160", () -> {
            CHECKS.refusedEach(HeardTest::told, -5, "fits(4, _, 0)", (x, n) -> x.fits(4, n, 0), 1, Integer.MAX_VALUE);
            CHECKS.refusedEach(HeardTest::told, -5, "fits(1, _, 0)", (x, n) -> x.fits(1, n, 0), 4, 40);
            CHECKS.due("fits(1, 3, 0)", told().fits(1, 3, 0), 6);
        });
        CHECKS.test(29, "-6 n not 1 to 40", "0 and 41, of as many elements", () -> {
            CHECKS.refusedEach(HeardTest::told, -6, "fits(0, _, 0)", (x, n) -> x.fits(0, n, 0), 0, 41);
            CHECKS.refusedEach(HeardTest::told, -6, "fits(6, _, 0)", (x, n) -> x.fits(6, n, 0), 0, 41, 160);
            CHECKS.refused(HeardTest::told, -6, "fits(4, 0, 0) of an empty ROW", x -> x.fits(4, 0, 0));
        });
        CHECKS.test(29, "-6 n not 1 to 40, a PITCH.", "PITCH just outside of 0 to 5", () ->
                CHECKS.refusedEach(HeardTest::told, -6, "fits(0, 1, _)", (x, p) -> x.fits(0, 1, p),
                        Checks.outside(0, 5)));
        CHECKS.test(29, IN_ORDER, "-1 to -6; fewer elements ahead of n above 40", () -> {
            int[][] pitches = {{0, 0}, {6, -6}, {-1, -6}};
            int[][] shelves = {{8, -1}, {-1, -1}, {2, -2}, {3, -3}};
            Checks.AllOpen call = (x, n) -> x.fits(n[0], n[1], n[2]);
            CHECKS.order(HeardTest::told, 0, "fits", call, shelves, new int[][] {{1, 0}, {-1, -4}, {0, -6}, {41, -6}},
                    pitches);
            CHECKS.order(HeardTest::told, 0, "fits", call, new int[][] {{1, 0}},
                    new int[][] {{3, 0}, {-1, -4}, {4, -5}, {41, -5}, {0, -6}}, pitches);
            CHECKS.order(HeardTest::told, 0, "fits", call, new int[][] {{5, 0}},
                    new int[][] {{40, 0}, {-1, -4}, {41, -5}, {0, -6}}, pitches);
            CHECKS.order(HeardTest::told, 0, "fits", call, new int[][] {{0, 0}},
                    new int[][] {{40, 0}, {-1, -4}, {42, -5}, {0, -6}, {41, -6}}, pitches);
        });
    }

    /** LEADING at 0, one with NEED 1 at 1, one with NEED 4 at 23: heard 1, 2, 2. */
    private static int change(int pitch, long... counts) {
        WhichOneAllKnow x = State.read("tune 5;voice 1 0 0 0 11;voice 0 0 1 3 11;voice 0 0 23 0 7;knows 0 0");
        State.row(x, 0, counts);
        String before = State.of(x);
        int answer = x.changed(0, counts.length, 0, pitch);
        CHECKS.same("changed", State.of(x), before);
        return answer;
    }

    /** Twelve VOICES; only if the last two change does the LEADING at 0 come beside the one with NEED 1 at 17. */
    private static WhichOneAllKnow lastTwo() {
        WhichOneAllKnow x = State.read("tune 0;voice 0 0 17 3 11");
        for (int place : new int[] {2, 3, 4, 8, 9, 12, 13, 14, 18}) {
            x.voice(0, 0, place, 0, 11);
        }
        x.voice(1, 0, 0, 0, 11);
        x.voice(0, 0, 23, 0, 11);
        x.knows(10, 0, true);
        return x;
    }

    private static void changed() {
        CHECKS.test(30, CHANGED, "of several the first, none, at a PITCH", () -> {
            CHECKS.due("1 2 2", change(0, 1, 2, 2), 1);
            CHECKS.due("1 1 1", change(0, 1, 1, 1), 2);
            CHECKS.due("1 1 1 at PITCH 3", change(3, 1, 1, 1), 2);
            CHECKS.due("2", change(0, 2), NONE);
            CHECKS.due("1 at PITCH 5", change(5, 1), 1);
        });
        CHECKS.test(30, "CHANGED; NONE.", "nobody is there, one is there", () -> {
            for (int voices = 0; voices <= 1; voices++) {
                WhichOneAllKnow x = State.read("tune 0" + (voices == 1 ? ";voice 1 0 0 0 11" : ""));
                x.row(0, 0, 1);
                CHECKS.due("of " + voices, x.changed(0, 1, 0, 0), NONE);
            }
        });
        CHECKS.test(30, CHANGED, "it is asked even if it FITS as they sit", () -> {
            WhichOneAllKnow x = State.read("tune 0;voice 2 0 0 0 11;voice 2 0 1 0 11");
            State.row(x, 0, 2, 2);
            CHECKS.due("fits(0, 2, 0)", x.fits(0, 2, 0), 1);
            CHECKS.due("changed(0, 2, 0, 0)", x.changed(0, 2, 0, 0), 1);
        });
        CHECKS.test(30, "the first two by numbers (20 times the lesser and the other)",
                "0 with 3 is ahead of 1 with 2", () -> {
            WhichOneAllKnow x = State.read("tune 0;voice 0 0 0 0 0;voice 1 0 8 0 11;voice 0 0 9 3 11;voice 0 0 23 0 0;"
                    + "knows 1 0");
            State.row(x, 0, 1, 1, 1);
            CHECKS.due("0 with 1", x.changed(0, 3, 0, 1), 1);
            x.move(0, 2);
            CHECKS.due("1 with 3", x.changed(0, 3, 0, 1), 23);
            CHECKS.due("of one VERSE", x.changed(0, 1, 0, 1), 1);
            State.row(x, 0, 0);
            CHECKS.due("none", x.changed(0, 1, 0, 1), NONE);
            // who has NEED 1 is 3; LEADING is 1; 0 is NEAR where 1 sits, 2 is NEAR where 3 sits
            WhichOneAllKnow y = State.read("tune 0;voice 0 0 1 0 0;voice 1 0 0 0 11;voice 0 0 22 0 0;voice 0 0 23 3 11;knows 1 0");
            State.row(y, 0, 1, 2);
            CHECKS.due("0 with 3", y.changed(0, 2, 0, 1), 3);
            y.move(0, 12);
            CHECKS.due("1 with 2", y.changed(0, 2, 0, 1), 22);
        });
        CHECKS.test(30, "(20 times the lesser and the other)", "the last two of twelve", () -> {
            WhichOneAllKnow x = lastTwo();
            State.row(x, 0, 1, 2, 2);
            CHECKS.due("fits(0, 3, 0)", x.fits(0, 3, 0), 0);
            CHECKS.due("changed(0, 3, 0, 0)", x.changed(0, 3, 0, 0), 211);
        });
        CHECKS.test(30, CHANGED, "the sixth TUNE, and that one alone", () -> {
            WhichOneAllKnow x = State.read("tune 0;tune 0;tune 0;tune 0;tune 0;tune 0;voice 1 0 0 0 11;voice 0 0 9 0 0;"
                    + "voice 0 0 8 3 11;knows 0 5");
            State.row(x, 0, 1, 2);
            CHECKS.due("TUNE 5", x.changed(0, 2, 5, 0), 1);
            CHECKS.due("TUNE 4", x.changed(0, 2, 4, 0), NONE);
        });
        CHECKS.test(30, "which two VOICES, had they changed PLACES", "forty elements, all of them", () -> {
            WhichOneAllKnow x = State.read("tune 0;voice 2 0 0 0 11;voice 2 0 1 0 11");
            x.row(0, 0, 160);
            for (int i = 0; i < 40; i++) {
                x.set(0, i, 2);
            }
            CHECKS.due("changed(0, 40, 0, 0)", x.changed(0, 40, 0, 0), 1);
            x.set(0, 39, 1);
            CHECKS.due("changed(0, 40, 0, 0), the 40th is 1", x.changed(0, 40, 0, 0), NONE);
            CHECKS.due("changed(0, 39, 0, 0)", x.changed(0, 39, 0, 0), 1);
        });
        CHECKS.test(30, "Elements of a ROW of longs count by their lowest 32 bits", "more above", () ->
                CHECKS.due("2^32 + 1, 2, 2", change(0, 4294967297L, 2, -4294967294L), 1));
    }

    private static void changedRefuses() {
        CHECKS.test(30, "-11 also TUNE; -12; -13; -14; -15; -16 (counted as -1 to -6).",
                "-11, no such SHELF, no such TUNE", () -> {
            CHECKS.refusedEach(HeardTest::told, -11, "changed(_, 1, 0, 0)", (x, s) -> x.changed(s, 1, 0, 0),
                    Checks.outside(0, 7));
            CHECKS.refusedEach(HeardTest::told, -11, "changed(0, 1, _, 0)", (x, t) -> x.changed(0, 1, t, 0),
                    Checks.outside(0, 2));
            CHECKS.refused(WhichOneAllKnow::new, -11, "changed(0, 1, 0, 0)", x -> x.changed(0, 1, 0, 0));
        });
        CHECKS.test(30, "-12; -13; -14; -15; -16 (counted as -1 to -6).", "-12, a VOICE; -13, NOTHING", () -> {
            CHECKS.refused(HeardTest::told, -12, "changed(2, 1, 0, 0)", x -> x.changed(2, 1, 0, 0));
            CHECKS.refused(HeardTest::told, -13, "changed(3, 1, 0, 0)", x -> x.changed(3, 1, 0, 0));
        });
        CHECKS.test(30, "-14; -15; -16 (counted as -1 to -6).", "-14, -1 and the least", () ->
                CHECKS.refusedEach(HeardTest::told, -14, "changed(0, _, 0, 0)", (x, n) -> x.changed(0, n, 0, 0), -1,
                        Integer.MIN_VALUE));
        CHECKS.test(30, "-15; -16 (counted as -1 to -6).", "-15, one more than there are: of none, three, forty",
                () -> {
            CHECKS.refusedEach(HeardTest::told, -15, "changed(4, _, 0, 0)", (x, n) -> x.changed(4, n, 0, 0), 1,
                    Integer.MAX_VALUE);
            CHECKS.refusedEach(HeardTest::told, -15, "changed(1, _, 0, 0)", (x, n) -> x.changed(1, n, 0, 0), 4);
            CHECKS.refusedEach(HeardTest::told, -15, "changed(5, _, 0, 0)", (x, n) -> x.changed(5, n, 0, 0), 41);
        });
        CHECKS.test(30, "-16 (counted as -1 to -6).", "n 0 and 41, of as many elements; PITCH just outside of 0 to 5",
                () -> {
            CHECKS.refusedEach(HeardTest::told, -16, "changed(0, _, 0, 0)", (x, n) -> x.changed(0, n, 0, 0), 0, 41);
            CHECKS.refused(HeardTest::told, -16, "changed(4, 0, 0, 0) of an empty ROW", x -> x.changed(4, 0, 0, 0));
            CHECKS.refusedEach(HeardTest::told, -16, "changed(0, 1, 0, _)", (x, p) -> x.changed(0, 1, 0, p),
                    Checks.outside(0, 5));
        });
        CHECKS.test(30, IN_ORDER, "-11 of SHELF or TUNE, then -12 to -16", () -> {
            int[][] tunes = {{0, 0}, {3, -1}, {-1, -1}};
            int[][] pitches = {{0, 0}, {6, -6}, {-1, -6}};
            Checks.AllOpen call = (x, n) -> x.changed(n[0], n[1], n[2], n[3]);
            CHECKS.order(HeardTest::told, 10, "changed", call, new int[][] {{8, -1}, {-1, -1}, {2, -2}, {3, -3}},
                    new int[][] {{1, 0}, {-1, -4}, {0, -6}, {41, -6}}, tunes, pitches);
            CHECKS.order(HeardTest::told, 10, "changed", call, new int[][] {{1, 0}},
                    new int[][] {{3, 0}, {-1, -4}, {4, -5}, {41, -5}, {0, -6}}, tunes, pitches);
            CHECKS.order(HeardTest::told, 10, "changed", call, new int[][] {{0, 0}},
                    new int[][] {{1, 0}, {-1, -4}, {42, -5}, {0, -6}, {41, -6}}, tunes, pitches);
        });
    }
}

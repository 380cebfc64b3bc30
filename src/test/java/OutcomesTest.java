/** Promises 21 to 31: what comes of it, with nothing changed. Due answers are worked out by hand. */
public final class OutcomesTest {
    private static final int NONE = WhichOneAllKnow.NONE;
    private static final Checks CHECKS = new Checks();

    public static void main(String[] args) {
        CHECKS.test("promise 21: best", OutcomesTest::best);
        CHECKS.test("promise 22: pitch", OutcomesTest::pitch);
        CHECKS.test("promise 23: two", OutcomesTest::two);
        CHECKS.test("promise 24: leaders", OutcomesTest::leaders);
        CHECKS.test("promise 24: leaders refuses", OutcomesTest::leadersRefuses);
        CHECKS.test("promise 25: taught", OutcomesTest::taught);
        CHECKS.test("promise 26: helps", OutcomesTest::helps);
        CHECKS.test("promise 27: late", OutcomesTest::late);
        CHECKS.test("promise 28: ahead", OutcomesTest::ahead);
        CHECKS.test("promise 29: fits", OutcomesTest::fits);
        CHECKS.test("promise 29: fits refuses", OutcomesTest::fitsRefuses);
        CHECKS.test("promise 30: changed", OutcomesTest::changed);
        CHECKS.test("promise 30: changed refuses", OutcomesTest::changedRefuses);
        CHECKS.test("promise 31: known", OutcomesTest::known);
        CHECKS.test("promises 21 to 31 change nothing", OutcomesTest::nothingChanges);
        CHECKS.close();
    }

    /** Six VOICES none of whom is NEAR another, BOLD 2: each sings just the TUNES he KNOWS. */
    private static WhichOneAllKnow apart(int top, String knows) {
        return State.read("tune 0;tune 0;tune 3;voice 0 0 0 2 " + top + ";voice 0 0 2 2 " + top
                + ";voice 0 0 4 2 " + top + ";voice 0 0 12 2 " + top + ";voice 0 0 14 2 " + top
                + ";voice 0 0 16 2 " + top + knows);
    }

    private static WhichOneAllKnow fewKnow() {
        return apart(11, ";knows 0 1;knows 1 1;knows 2 2");
    }

    private static void best() {
        CHECKS.due("best(0, 0)", fewKnow().best(0, 0), 1);
        CHECKS.due("best(5, 40)", fewKnow().best(5, 40), 1);
        CHECKS.due("of several the first", apart(11, ";knows 0 2;knows 1 1").best(0, 3), 1);
        CHECKS.due("of none", apart(11, "").best(0, 3), 0);
        WhichOneAllKnow x = apart(5, ";knows 0 2;knows 1 2;knows 0 1");
        CHECKS.due("in reach", x.best(2, 0), 2);
        CHECKS.due("out of reach", x.best(3, 0), 1);
        // TUNE 1 is ahead by VERSE 0, TUNE 0 by VERSE 1
        WhichOneAllKnow y = State.read("tune 0;tune 0;voice 1 0 0 0 11;voice 2 1 1 0 11;voice 2 1 6 0 11;"
                + "voice 0 0 22 2 11;voice 0 0 4 2 11;knows 0 0;knows 3 1;knows 4 1");
        CHECKS.due("by VERSE 0", y.best(0, 0), 1);
        CHECKS.due("by VERSE 1", y.best(0, 1), 0);
        CHECKS.refused(WhichOneAllKnow::new, -5, "best of no TUNES", z -> z.best(6, 41));
        CHECKS.refused(OutcomesTest::fewKnow, -6, "best(6, 0)", z -> z.best(6, 0));
        CHECKS.refused(OutcomesTest::fewKnow, -6, "best(-1, 0)", z -> z.best(-1, 0));
        CHECKS.refused(OutcomesTest::fewKnow, -6, "best(0, 41)", z -> z.best(0, 41));
        CHECKS.refused(OutcomesTest::fewKnow, -6, "best(0, -1)", z -> z.best(0, -1));
    }

    private static void pitch() {
        WhichOneAllKnow x = apart(5, ";knows 0 0;knows 0 2");
        CHECKS.due("pitch(0, 0)", x.pitch(0, 0), 5);
        CHECKS.due("pitch(2, 0)", x.pitch(2, 0), 2);
        CHECKS.due("pitch(1, 0) of none", x.pitch(1, 0), 5);
        // a BOOMER with TOP 3 leads the ASTRAY astray until the PITCH is too high for him
        WhichOneAllKnow y = State.read("tune 2;voice 3 0 0 0 3;voice 4 0 1 2 11;voice 0 0 23 2 6;knows 1 0;knows 2 0");
        CHECKS.due("pitch(0, 0)", y.pitch(0, 0), 4);
        CHECKS.due("pitch(0, 1)", y.pitch(0, 1), 4);
        y.knows(2, 0, false);
        CHECKS.due("pitch(0, 1)", y.pitch(0, 1), 5);
        CHECKS.refused(OutcomesTest::fewKnow, -1, "pitch(3, 41)", z -> z.pitch(3, 41));
        CHECKS.refused(OutcomesTest::fewKnow, -1, "pitch(-1, 0)", z -> z.pitch(-1, 0));
        CHECKS.refused(OutcomesTest::fewKnow, -6, "pitch(0, 41)", z -> z.pitch(0, 41));
        CHECKS.refused(OutcomesTest::fewKnow, -6, "pitch(0, -1)", z -> z.pitch(0, -1));
    }

    private static void two() {
        CHECKS.due("of no TUNES", new WhichOneAllKnow().two(0), NONE);
        CHECKS.due("of one", State.read("tune 0").two(0), NONE);
        CHECKS.due("of several the first", apart(11, ";knows 0 0;knows 1 1;knows 2 2").two(0), 1);
        CHECKS.due("0 and 2", apart(11, ";knows 0 0;knows 1 1;knows 2 2;knows 3 2").two(7), 2);
        // 0 and 1 are known by most, but by the same VOICES
        CHECKS.due("in one of the two", apart(11, ";knows 0 0;knows 1 0;knows 0 1;knows 1 1;knows 2 2").two(40), 2);
        CHECKS.due("1 and 2", apart(11, ";knows 0 1;knows 1 1;knows 2 2").two(0), 12);
        CHECKS.due("at PITCH 0", apart(3, ";knows 0 0;knows 1 2;knows 2 2").two(0), 2);
        CHECKS.refused(OutcomesTest::fewKnow, -16, "two(41)", x -> x.two(41));
        CHECKS.refused(OutcomesTest::fewKnow, -16, "two(-1)", x -> x.two(-1));
        CHECKS.refused(WhichOneAllKnow::new, -16, "two(41) of no TUNES", x -> x.two(41));
    }

    private static void led(WhichOneAllKnow x, int verse, int k, int... due) {
        for (int i = NONE; i < k; i++) {
            String call = "leaders(0, 0, " + verse + ", " + k + ", " + i + ")";
            CHECKS.due(call, x.leaders(0, 0, verse, k, i), due[i + 1]);
        }
    }

    private static WhichOneAllKnow corners() {
        // two VOICES with NEED 1 who can't hear each other
        return State.read("tune 0;voice 0 0 0 3 11;voice 0 0 23 3 11");
    }

    private static void leaders() {
        led(corners(), 1, 1, 1, 1);
        led(corners(), 1, 2, 2, 1, 16);
        // at VERSE 0 only leaders sing, and they aren't counted
        led(corners(), 0, 1, 0, 1);
        led(corners(), 0, 2, 0, 1, 2);
        // one with NEED 2 wants two of them
        WhichOneAllKnow x = State.read("tune 0;voice 0 0 0 2 11;voice 0 0 23 0 0");
        led(x, 5, 1, 0, 1);
        led(x, 5, 2, 1, 1, 6);
        x.move(1, 6);
        led(x, 5, 2, 1, 1, 7);
        // a leader's TOP is 11
        WhichOneAllKnow y = State.read("tune 11;voice 2 1 1 0 11");
        CHECKS.due("in reach", y.leaders(0, 0, 1, 1, NONE), 1);
        CHECKS.due("out of reach", y.leaders(0, 1, 1, 1, NONE), 0);
        WhichOneAllKnow z = State.read("tune 10;voice 0 0 8 3 11");
        CHECKS.due("PITCH 1", z.leaders(0, 1, 1, 1, NONE), 1);
        CHECKS.due("PITCH 1", z.leaders(0, 1, 1, 1, 0), 1);
        CHECKS.due("PITCH 2", z.leaders(0, 2, 1, 1, NONE), 0);
        CHECKS.due("PITCH 2", z.leaders(0, 2, 1, 1, 0), 0);
        WhichOneAllKnow full = State.read("tune 0");
        for (int v = 0; v < 12; v++) {
            full.voice(2, 1, v, 0, 11);
        }
        led(full, 1, 1, 3, 13);
        led(full, 1, 2, 6, 13, 16);
        led(full, 2, 2, 12, 12, 15);
        CHECKS.due("of nobody", State.read("tune 0").leaders(0, 0, 0, 2, 1), 1);
    }

    private static void leadersRefuses() {
        CHECKS.refused(OutcomesTest::corners, -1, "no TUNE", x -> x.leaders(1, 6, 41, 3, 9));
        CHECKS.refused(OutcomesTest::corners, -1, "TUNE -1", x -> x.leaders(-1, 0, 0, 1, 0));
        CHECKS.refused(OutcomesTest::corners, -5, "i 1 of 1, all else wrong", x -> x.leaders(0, 6, 41, 1, 1));
        CHECKS.refused(OutcomesTest::corners, -5, "i 2 of 2", x -> x.leaders(0, 0, 0, 2, 2));
        CHECKS.refused(OutcomesTest::corners, -5, "i -2", x -> x.leaders(0, 0, 0, 2, -2));
        CHECKS.refused(OutcomesTest::corners, -6, "k 3 with an i that is none", x -> x.leaders(0, 0, 0, 3, 9));
        CHECKS.refused(OutcomesTest::corners, -6, "k 0", x -> x.leaders(0, 0, 0, 0, NONE));
        CHECKS.refused(OutcomesTest::corners, -6, "PITCH 6", x -> x.leaders(0, 6, 0, 1, 0));
        CHECKS.refused(OutcomesTest::corners, -6, "PITCH -1", x -> x.leaders(0, -1, 0, 1, 0));
        CHECKS.refused(OutcomesTest::corners, -6, "VERSE 41", x -> x.leaders(0, 0, 41, 1, 0));
        CHECKS.refused(OutcomesTest::corners, -6, "VERSE -1", x -> x.leaders(0, 0, -1, 1, 0));
    }

    private static void taught() {
        CHECKS.due("of nobody", State.read("tune 0").taught(0, 0), 0);
        CHECKS.due("three of six", apart(11, "").taught(0, 0), 7);
        CHECKS.due("one more", apart(11, ";knows 0 0;knows 4 0").taught(0, 0), 2);
        CHECKS.due("who catch it already", apart(11, ";knows 0 0;knows 4 0;knows 5 0").taught(0, 0), 0);
        WhichOneAllKnow seven = apart(11, "");
        seven.voice(0, 0, 5, 2, 11);
        CHECKS.due("four of seven are too many", seven.taught(0, 0), NONE);
        CHECKS.due("out of reach", apart(4, "").taught(2, 2), NONE);
        WhichOneAllKnow x = State.read("tune 0;voice 0 0 0 2 0;voice 0 0 2 2 11;voice 0 0 4 2 11");
        CHECKS.due("the least as bits", x.taught(0, 0), 3);
        CHECKS.due("the least in reach", x.taught(0, 1), 6);
        // who learns it brings others along
        CHECKS.due("a LEADING", State.read("tune 0;voice 0 0 0 0 11;voice 1 0 1 0 11;voice 2 1 2 0 11;voice 0 0 23 0 0")
                .taught(0, 0), 2);
        CHECKS.refused(OutcomesTest::corners, -11, "taught(1, 6)", y -> y.taught(1, 6));
        CHECKS.refused(OutcomesTest::corners, -11, "taught(-1, 0)", y -> y.taught(-1, 0));
        CHECKS.refused(OutcomesTest::corners, -16, "taught(0, 6)", y -> y.taught(0, 6));
        CHECKS.refused(OutcomesTest::corners, -16, "taught(0, -1)", y -> y.taught(0, -1));
    }

    private static void helps() {
        // a BOOMER leads the ASTRAY at PLACE 1 astray; the LEADING at 22 brings in the VOICE at 23
        WhichOneAllKnow x = State.read("tune 0;voice 3 0 0 0 11;voice 4 0 1 2 11;voice 1 0 22 0 11;voice 0 0 23 3 11;"
                + "knows 1 0;knows 2 0");
        CHECKS.due("BOOMER at 0", x.helps(0, 0, 0, 0), 0);
        CHECKS.due("BOOMER at 1", x.helps(0, 0, 0, 1), -1);
        CHECKS.due("ASTRAY", x.helps(1, 0, 0, 1), 0);
        CHECKS.due("LEADING at 0", x.helps(2, 0, 0, 0), 0);
        CHECKS.due("LEADING at 40", x.helps(2, 0, 0, 40), 1);
        CHECKS.due("who joins", x.helps(3, 0, 0, 40), 0);
        for (int number = 11; number <= 17; number++) {
            CHECKS.due("status(" + number + ")", x.status(number), 0);
        }
        CHECKS.refused(OutcomesTest::corners, -101, "VOICE 2", y -> y.helps(2, 0, 6, 41));
        CHECKS.refused(OutcomesTest::corners, -101, "VOICE -1", y -> y.helps(-1, 0, 0, 0));
        CHECKS.refused(OutcomesTest::corners, -101, "TUNE 1", y -> y.helps(0, 1, 0, 0));
        CHECKS.refused(OutcomesTest::corners, -101, "TUNE -1", y -> y.helps(0, -1, 0, 0));
        CHECKS.refused(OutcomesTest::corners, -106, "PITCH 6", y -> y.helps(0, 0, 6, 0));
        CHECKS.refused(OutcomesTest::corners, -106, "PITCH -1", y -> y.helps(0, 0, -1, 0));
        CHECKS.refused(OutcomesTest::corners, -106, "VERSE 41", y -> y.helps(0, 0, 0, 41));
        CHECKS.refused(OutcomesTest::corners, -106, "VERSE -1", y -> y.helps(0, 0, 0, -1));
    }

    private static void late() {
        WhichOneAllKnow x = new WhichOneAllKnow();
        // WAIT, t, n, due
        int[][] cases = {
            {2, 10, NONE, 20}, {2, 10, 0, 20}, {2, 10, 1, 10}, {2, 10, 2, 0}, {2, 10, 9, 0},
            {9, 99, NONE, 891}, {9, 99, 8, 99}, {9, 0, NONE, 0}, {9, 0, 0, 0}, {0, 99, NONE, 0}, {0, 99, 3, 0},
        };
        for (int[] c : cases) {
            x.ask(c[0]);
            CHECKS.due("late(" + c[1] + ", " + c[2] + ") of WAIT " + c[0], x.late(c[1], c[2]), c[3]);
        }
        CHECKS.refused(WhichOneAllKnow::new, -6, "late(100, 0)", y -> y.late(100, 0));
        CHECKS.refused(WhichOneAllKnow::new, -6, "late(-1, 0)", y -> y.late(-1, 0));
        CHECKS.refused(WhichOneAllKnow::new, -6, "late(0, 10)", y -> y.late(0, 10));
        CHECKS.refused(WhichOneAllKnow::new, -6, "late(0, -2)", y -> y.late(0, -2));
    }

    private static void ahead() {
        WhichOneAllKnow x = new WhichOneAllKnow();
        // WAIT, t, l, due
        int[][] cases = {
            {2, 10, 5, 2}, {2, 10, 9, 2}, {2, 10, 10, 1}, {2, 10, 19, 1}, {2, 10, 20, 0}, {2, 0, 0, 0},
            {9, 99, 99, 8}, {9, 99, 98, 9}, {9, 99, 0, 9}, {0, 99, 0, 0}, {9, 11, 99, 0},
        };
        for (int[] c : cases) {
            x.ask(c[0]);
            CHECKS.due("ahead(" + c[1] + ", " + c[2] + ") of WAIT " + c[0], x.ahead(c[1], c[2]), c[3]);
        }
        CHECKS.refused(WhichOneAllKnow::new, -16, "ahead(100, 0)", y -> y.ahead(100, 0));
        CHECKS.refused(WhichOneAllKnow::new, -16, "ahead(-1, 0)", y -> y.ahead(-1, 0));
        CHECKS.refused(WhichOneAllKnow::new, -16, "ahead(0, 100)", y -> y.ahead(0, 100));
        CHECKS.refused(WhichOneAllKnow::new, -16, "ahead(0, -1)", y -> y.ahead(0, -1));
    }

    /** TUNE 0 (HIGH 8) is heard from 1, then 2; TUNE 1 from nobody; of TUNE 2 a MIME alone hears nobody. */
    private static WhichOneAllKnow heard() {
        return State.read("tune 8;tune 0;tune 0;voice 1 0 0 0 10;voice 0 0 1 3 9;voice 5 1 6 0 11;knows 0 0");
    }

    private static int fit(int pitch, long... counts) {
        WhichOneAllKnow x = heard();
        State.row(x, 0, counts);
        return x.fits(0, counts.length, pitch);
    }

    private static void fits() {
        CHECKS.due("1 2 2", fit(0, 1, 2, 2), 1);
        CHECKS.due("1 2 2 at PITCH 1", fit(1, 1, 2, 2), 1);
        CHECKS.due("1 2 2 at PITCH 2", fit(2, 1, 2, 2), 0);
        CHECKS.due("1 1 1 at PITCH 2", fit(2, 1, 1, 1), 1);
        CHECKS.due("0", fit(0, 0), 6);
        CHECKS.due("0 0 at PITCH 5", fit(5, 0, 0), 7);
        CHECKS.due("1 2 3", fit(0, 1, 2, 3), 0);
        CHECKS.due("lowest 32 bits", fit(0, 4294967297L, -4294967294L), 1);
        CHECKS.due("-1", fit(0, -1), 0);
        WhichOneAllKnow x = heard();
        x.row(0, 0, 41);
        CHECKS.due("fits(0, 40, 5)", x.fits(0, 40, 5), 7);
        x.set(0, 39, 1);
        CHECKS.due("the 40th counts", x.fits(0, 40, 5), 0);
        CHECKS.due("the first 39 alone", x.fits(0, 39, 5), 7);
        // WRONG is heard, too; without TUNES none FIT
        WhichOneAllKnow y = State.read("tune 0;voice 3 0 0 0 11");
        y.row(0, 2, 1);
        y.set(0, 0, 1);
        CHECKS.due("a BOOMER", y.fits(0, 1, 0), 1);
        WhichOneAllKnow z = new WhichOneAllKnow();
        z.row(0, 0, 1);
        CHECKS.due("without TUNES", z.fits(0, 1, 0), 0);
    }

    private static WhichOneAllKnow told() {
        WhichOneAllKnow x = heard();
        x.row(0, 0, 41);
        x.row(1, 1, 3);
        x.show(2, 0);
        return x;
    }

    private static void fitsRefuses() {
        CHECKS.refused(OutcomesTest::told, -1, "fits(8, -1, 6)", x -> x.fits(8, -1, 6));
        CHECKS.refused(OutcomesTest::told, -2, "fits(2, -1, 6)", x -> x.fits(2, -1, 6));
        CHECKS.refused(OutcomesTest::told, -3, "fits(3, -1, 6)", x -> x.fits(3, -1, 6));
        CHECKS.refused(OutcomesTest::told, -4, "fits(0, -1, 6)", x -> x.fits(0, -1, 6));
        CHECKS.refused(OutcomesTest::told, -5, "fits(1, 4, 6)", x -> x.fits(1, 4, 6));
        CHECKS.refused(OutcomesTest::told, -6, "fits(0, 0, 0)", x -> x.fits(0, 0, 0));
        CHECKS.refused(OutcomesTest::told, -6, "fits(0, 41, 0)", x -> x.fits(0, 41, 0));
        CHECKS.refused(OutcomesTest::told, -6, "fits(0, 1, 6)", x -> x.fits(0, 1, 6));
        CHECKS.refused(OutcomesTest::told, -6, "fits(0, 1, -1)", x -> x.fits(0, 1, -1));
    }

    /** LEADING at 0, one with NEED 1 at 1, one with NEED 4 at 23: heard 1, 2, 2. */
    private static int change(int pitch, long... counts) {
        WhichOneAllKnow x = State.read("tune 5;voice 1 0 0 0 11;voice 0 0 1 3 11;voice 0 0 23 0 7;knows 0 0");
        State.row(x, 0, counts);
        int answer = x.changed(0, counts.length, 0, pitch);
        CHECKS.due("PLACE of VOICE 0 after changed", x.voiceOf(0, 2), 0);
        CHECKS.due("PLACE of VOICE 2 after changed", x.voiceOf(2, 2), 23);
        return answer;
    }

    private static void changed() {
        CHECKS.due("1 2 2", change(0, 1, 2, 2), 1);
        CHECKS.due("1 1 1", change(0, 1, 1, 1), 2);
        CHECKS.due("1 1 1 at PITCH 3", change(3, 1, 1, 1), 2);
        CHECKS.due("2", change(0, 2), NONE);
        WhichOneAllKnow x = State.read("tune 0;voice 0 0 0 0 0;voice 1 0 8 0 11;voice 0 0 9 3 11;voice 0 0 23 0 0;"
                + "knows 1 0");
        State.row(x, 0, 1, 1, 1);
        CHECKS.due("the first two", x.changed(0, 3, 0, 1), 1);
        x.move(0, 2);
        CHECKS.due("not NEAR any longer", x.changed(0, 3, 0, 1), 23);
        CHECKS.due("of one VERSE", x.changed(0, 1, 0, 1), 1);
        State.row(x, 0, 0);
        CHECKS.due("none", x.changed(0, 1, 0, 1), NONE);
        WhichOneAllKnow y = State.read("tune 0;voice 1 0 0 0 11");
        y.row(0, 0, 1);
        CHECKS.due("of one VOICE", y.changed(0, 1, 0, 0), NONE);
    }

    private static void changedRefuses() {
        CHECKS.refused(OutcomesTest::told, -11, "SHELF 8", x -> x.changed(8, -1, 0, 6));
        CHECKS.refused(OutcomesTest::told, -11, "TUNE 3", x -> x.changed(2, -1, 3, 6));
        CHECKS.refused(OutcomesTest::told, -11, "TUNE -1", x -> x.changed(0, 1, -1, 0));
        CHECKS.refused(OutcomesTest::told, -12, "a VOICE", x -> x.changed(2, -1, 0, 6));
        CHECKS.refused(OutcomesTest::told, -13, "NOTHING", x -> x.changed(3, -1, 0, 6));
        CHECKS.refused(OutcomesTest::told, -14, "n -1", x -> x.changed(1, -1, 0, 6));
        CHECKS.refused(OutcomesTest::told, -15, "n 4 of 3", x -> x.changed(1, 4, 0, 6));
        CHECKS.refused(OutcomesTest::told, -16, "n 41", x -> x.changed(0, 41, 0, 0));
        CHECKS.refused(OutcomesTest::told, -16, "n 0", x -> x.changed(0, 0, 0, 0));
        CHECKS.refused(OutcomesTest::told, -16, "PITCH 6", x -> x.changed(0, 1, 0, 6));
        CHECKS.refused(OutcomesTest::told, -16, "PITCH -1", x -> x.changed(0, 1, 0, -1));
    }

    private static void known() {
        WhichOneAllKnow x = apart(11, ";knows 0 0;knows 0 2;knows 1 2;knows 2 0;knows 2 2;knows 3 1");
        CHECKS.due("known(0, 0)", x.known(0, 0), 2);
        CHECKS.due("known(3, 0)", x.known(3, 0), 1);
        CHECKS.due("known(5, 0)", x.known(5, 0), 0);
        CHECKS.due("known(-9, 1)", x.known(-9, 1), 6);
        CHECKS.due("known(99, 2)", x.known(99, 2), 0);
        CHECKS.due("known(99, 3), of several the first", x.known(99, 3), 0);
        x.knows(4, 2, true);
        x.knows(5, 2, true);
        CHECKS.due("known(99, 3), most", x.known(99, 3), 1);
        for (int v = 0; v < 6; v++) {
            x.knows(v, 1, true);
        }
        CHECKS.due("ALL", x.known(0, 2), 2);
        CHECKS.due("ASK of one", State.read("voice 0 0 0 0 0").known(0, 3), 0);
        CHECKS.due("ALL of nobody", State.read("tune 0;tune 0;tune 0").known(0, 2), 7);
        CHECKS.due("together of nobody", State.read("tune 0").known(0, 1), 0);
        CHECKS.refused(OutcomesTest::fewKnow, -1, "known(6, 0)", y -> y.known(6, 0));
        CHECKS.refused(OutcomesTest::fewKnow, -1, "known(-1, 0)", y -> y.known(-1, 0));
        CHECKS.refused(OutcomesTest::fewKnow, -5, "known(6, 4)", y -> y.known(6, 4));
        CHECKS.refused(OutcomesTest::fewKnow, -5, "known(0, -1)", y -> y.known(0, -1));
        CHECKS.refused(WhichOneAllKnow::new, -5, "ASK of nobody", y -> y.known(0, 3));
    }

    private static void nothingChanges() {
        WhichOneAllKnow x = told();
        WhichOneAllKnow y = told();
        x.best(0, 40);
        x.pitch(0, 40);
        x.two(40);
        x.leaders(0, 0, 3, 2, NONE);
        x.taught(1, 0);
        x.helps(0, 0, 0, 3);
        x.late(3, 3);
        x.ahead(3, 3);
        x.fits(1, 3, 0);
        x.changed(1, 3, 0, 0);
        x.known(0, 3);
        if (!State.of(x).equals(State.of(y))) {
            CHECKS.fault("changed to " + State.of(x) + "\n    from " + State.of(y));
        }
    }
}

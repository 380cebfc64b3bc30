/** Promises 18 to 20: a HYMN VERSE by VERSE. Each due answer is worked out by hand beside its church. */
public final class HymnTest {
    private static final int NONE = WhichOneAllKnow.NONE;
    private static final Checks CHECKS = new Checks();

    public static void main(String[] args) {
        CHECKS.test("promise 18: NEAR is a ROW or a SEAT away", HymnTest::near);
        CHECKS.test("promise 18: LEADING start, others join", HymnTest::joins);
        CHECKS.test("promise 18: DRAGGER joins a VERSE behind", HymnTest::drags);
        CHECKS.test("promise 18: MIME mimes and counts", HymnTest::mimes);
        CHECKS.test("promise 18: BOOMER booms, others go astray", HymnTest::booms);
        CHECKS.test("promise 18: who is out of reach is never heard", HymnTest::reach);
        CHECKS.test("promise 18: goes round for ever", HymnTest::round);
        CHECKS.test("promise 18: sung refuses", HymnTest::sungRefuses);
        CHECKS.test("promise 19: needs", HymnTest::needs);
        CHECKS.test("promise 19: needs refuses", HymnTest::needsRefuses);
        CHECKS.test("promise 20: CATCHES", HymnTest::catches);
        CHECKS.test("promise 20: SETTLES", HymnTest::settles);
        CHECKS.test("promise 20: verse refuses", HymnTest::verseRefuses);
        CHECKS.close();
    }

    private static void sung(WhichOneAllKnow x, int pitch, int what, int... due) {
        for (int verse = 0; verse < due.length; verse++) {
            String call = "sung(0, " + pitch + ", " + verse + ", " + what + ")";
            CHECKS.due(call, x.sung(0, pitch, verse, what), due[verse]);
        }
    }

    /** One LEADING who KNOWS it at each PLACE in turn; the answer tells who of eight others is NEAR. */
    private static void near() {
        int[][] cases = {
            // PLACE of the LEADING, PLACES of VOICES 1, 2, .., bits of those NEAR
            {0, 1, 6, 7, 2, 12, 8, 23, 0b1110},
            {5, 4, 6, 10, 11, 0, 12, 9, 0b11010},
            {6, 0, 1, 5, 7, 11, 12, 13, 0b11010110},
            {8, 1, 2, 3, 7, 9, 13, 14, 0b11111110},
            {11, 4, 5, 6, 10, 12, 16, 17, 0b11010110},
            {18, 12, 13, 17, 19, 11, 7, 20, 0b10110},
            {23, 16, 17, 18, 22, 12, 10, 0, 0b10110},
        };
        for (int[] c : cases) {
            WhichOneAllKnow x = State.read("tune 0;voice 1 0 " + c[0] + " 0 11;knows 0 0");
            for (int i = 1; i <= 7; i++) {
                x.voice(0, 0, c[i], 3, i % 2 == 0 ? 0 : 11);
            }
            CHECKS.due("NEAR " + c[0], x.sung(0, 0, 0, 3), c[8]);
            CHECKS.due("RIGHT with " + c[0], x.sung(0, 0, 1, 0), 1 | c[8]);
        }
    }

    private static void joins() {
        // in one ROW: 0 LEADING; 1 VOICE, BOLD 3, KNOWS nothing: NEED 1; 2 VOICE, BOLD 1, KNOWS it: NEED 1;
        // 3 JOINING, a 1; 4 LEADING, BOLD 2, KNOWS nothing: NEED 2
        WhichOneAllKnow x = State.read("tune 0;voice 1 0 0 0 11;voice 0 9 1 3 11;voice 0 9 2 1 11;"
                + "voice 2 1 3 0 11;voice 1 0 4 2 11;knows 0 0;knows 2 0");
        sung(x, 0, 0, 1, 3, 7, 15, 15, 15);
        sung(x, 0, 1, 0, 0, 0, 0, 0);
        sung(x, 0, 2, 0, 0, 0, 0, 0);
        sung(x, 0, 3, 2, 7, 15, 31, 31);
        CHECKS.due("sung at 40", x.sung(0, 0, 40, 0), 15);
        // NEED 2 has two NEAR now
        x.voice(1, 0, 5, 0, 11);
        x.knows(5, 0, true);
        sung(x, 0, 0, 33, 35, 39, 47, 63, 63);
        // a LEADING without the TUNE, and a bold one with it who is no LEADING
        WhichOneAllKnow y = State.read("tune 0;voice 1 0 0 3 11;voice 0 0 23 2 11;knows 1 0");
        sung(y, 0, 0, 2, 2, 2);
        // JOINING with a 0 sings unasked; with a 2 the TUNE he KNOWS doesn't help
        WhichOneAllKnow z = State.read("tune 0;voice 2 0 0 0 11;voice 2 2 1 5 11;knows 1 0");
        sung(z, 0, 0, 1, 1, 1);
    }

    private static void drags() {
        // LEADING, and a DRAGGER NEAR him with NEED 1, and one with NEED 0 far away
        WhichOneAllKnow x = State.read("tune 0;voice 1 0 0 0 11;voice 6 0 1 1 11;voice 6 0 23 2 11;"
                + "knows 0 0;knows 1 0;knows 2 0");
        sung(x, 0, 0, 5, 5, 7, 7);
        // behind a VOICE who joins at VERSE 1 a DRAGGER joins at 3; WRONG counts for it too
        WhichOneAllKnow y = State.read("tune 0;voice 3 0 0 0 11;voice 0 0 1 3 11;voice 6 0 2 1 11;knows 2 0");
        sung(y, 0, 0, 0, 0, 0, 0, 0);
        sung(y, 0, 1, 1, 3, 3, 7, 7);
        // however bold, without the TUNE he has NEED 1, and nobody is there
        WhichOneAllKnow z = State.read("tune 0;voice 6 0 0 5 11");
        sung(z, 0, 0, 0, 0, 0);
    }

    private static void mimes() {
        // LEADING, MIME with a 1 who KNOWS it, VOICE with NEED 1 behind him; a MIME with a 0 far away
        WhichOneAllKnow x = State.read("tune 0;voice 1 0 0 0 11;voice 5 1 1 5 11;voice 0 0 2 3 11;"
                + "voice 5 0 23 0 11;knows 0 0;knows 1 0");
        sung(x, 0, 0, 1, 1, 5, 5);
        sung(x, 0, 1, 0, 0, 0, 0);
        sung(x, 0, 2, 8, 10, 10, 10);
        sung(x, 0, 3, 2, 2, 2, 2);
    }

    private static void booms() {
        // BOOMER without the TUNE; NEAR him: VOICE without it (NEED 1), VOICE with it, ASTRAY with it
        WhichOneAllKnow x = State.read("tune 0;voice 3 0 7 0 11;voice 0 0 0 3 11;voice 0 0 2 2 11;"
                + "voice 4 0 14 2 11;knows 2 0;knows 3 0");
        sung(x, 0, 0, 12, 4, 4);
        sung(x, 0, 1, 1, 11, 11);
        // as many WRONG as RIGHT: nobody is led astray
        WhichOneAllKnow y = State.read("tune 0;voice 3 0 7 0 11;voice 1 0 9 0 11;voice 0 0 8 3 11;"
                + "voice 4 0 2 5 11;knows 1 0");
        sung(y, 0, 0, 2, 14, 14);
        // a BOOMER who KNOWS it sings RIGHT, whoever is NEAR
        WhichOneAllKnow z = State.read("tune 0;voice 3 0 0 0 11;voice 3 0 1 0 11;knows 1 0");
        sung(z, 0, 0, 2, 2, 2);
        sung(z, 0, 1, 1, 1, 1);
        // a MIME neither leads astray nor sets right
        WhichOneAllKnow m = State.read("tune 0;voice 5 0 0 0 11;voice 0 0 1 3 11");
        sung(m, 0, 0, 0, 2, 2);
    }

    private static void reach() {
        WhichOneAllKnow x = State.read("tune 8;voice 1 0 0 0 11;voice 3 0 1 0 10;voice 5 0 2 0 9;knows 0 0");
        int[][] due = {{1, 2, 4}, {1, 2, 4}, {1, 2, 0}, {1, 0, 0}, {0, 0, 0}, {0, 0, 0}};
        for (int pitch = 0; pitch <= 5; pitch++) {
            for (int what = 0; what <= 2; what++) {
                sung(x, pitch, what, due[pitch][what]);
            }
        }
        CHECKS.due("NEAR, out of reach", x.sung(0, 3, 0, 3), 2);
    }

    private static WhichOneAllKnow goingRound() {
        // BOOMER at 6; ASTRAY at 7 (NEED 0) NEAR him; ASTRAY at 8 (NEED 1) NEAR 7 only:
        // 8 follows 7, and 7 is RIGHT just when 8 was
        return State.read("tune 0;voice 3 0 6 0 11;voice 4 0 7 2 11;voice 4 0 8 1 11;knows 1 0;knows 2 0");
    }

    private static void round() {
        WhichOneAllKnow x = goingRound();
        sung(x, 0, 0, 2, 4, 2, 4, 2, 4);
        sung(x, 0, 1, 1, 3, 5, 3, 5, 3);
        CHECKS.due("RIGHT at 40", x.sung(0, 0, 40, 0), 2);
        CHECKS.due("RIGHT at 39", x.sung(0, 0, 39, 0), 4);
    }

    private static WhichOneAllKnow two() {
        return State.read("tune 0;tune 1;voice 1 0 0 0 11;knows 0 0");
    }

    private static void sungRefuses() {
        CHECKS.refused(HymnTest::two, -1, "sung(2, 6, 41, 4)", x -> x.sung(2, 6, 41, 4));
        CHECKS.refused(HymnTest::two, -1, "sung(-1, 0, 0, 0)", x -> x.sung(-1, 0, 0, 0));
        CHECKS.refused(HymnTest::two, -5, "sung(0, 6, 41, 4)", x -> x.sung(0, 6, 41, 4));
        CHECKS.refused(HymnTest::two, -5, "sung(0, 0, 0, -1)", x -> x.sung(0, 0, 0, -1));
        CHECKS.refused(HymnTest::two, -6, "sung(0, 6, 0, 0)", x -> x.sung(0, 6, 0, 0));
        CHECKS.refused(HymnTest::two, -6, "sung(0, -1, 0, 0)", x -> x.sung(0, -1, 0, 0));
        CHECKS.refused(HymnTest::two, -6, "sung(0, 0, 41, 0)", x -> x.sung(0, 0, 41, 0));
        CHECKS.refused(HymnTest::two, -6, "sung(0, 0, -1, 0)", x -> x.sung(0, 0, -1, 0));
    }

    private static void needs() {
        // for each KIND, with a 7: due for BOLD 0 to 5 of one who KNOWS it, and of one who doesn't
        int[] knowing = {2, 1, 0, 0, 0, 0};
        int[] not = {4, 3, 2, 1, 1, 1};
        for (int kind = 0; kind <= 6; kind++) {
            WhichOneAllKnow x = new WhichOneAllKnow();
            x.tune(0);
            for (int v = 0; v < 12; v++) {
                x.voice(kind, 7, v, v / 2, 11);
                x.knows(v, 0, v % 2 == 0);
            }
            for (int v = 0; v < 12; v++) {
                int due = v % 2 == 0 ? kind == 1 ? 0 : knowing[v / 2] : not[v / 2];
                due = kind == 3 ? 0 : kind == 2 || kind == 5 ? 7 : due;
                CHECKS.due("needs of KIND " + kind + ", VOICE " + v, x.needs(v, 0), due);
            }
        }
    }

    private static void needsRefuses() {
        CHECKS.refused(HymnTest::two, -1, "needs(1, 0)", x -> x.needs(1, 0));
        CHECKS.refused(HymnTest::two, -1, "needs(-1, 0)", x -> x.needs(-1, 0));
        CHECKS.refused(HymnTest::two, -1, "needs(0, 2)", x -> x.needs(0, 2));
        CHECKS.refused(HymnTest::two, -1, "needs(0, -1)", x -> x.needs(0, -1));
    }

    private static void catches() {
        CHECKS.due("of nobody", State.read("tune 0").verse(0, 5, 0), 0);
        // 1 of 5 at VERSE 0, 2 at 1, 3 at 2: half is reached at 2; a sixth VOICE makes 3 just half
        WhichOneAllKnow x = State.read("tune 0;voice 1 0 0 0 11;voice 0 0 1 3 11;voice 0 0 2 3 11;"
                + "voice 0 0 3 3 11;voice 0 0 23 0 0;knows 0 0");
        CHECKS.due("of 5", x.verse(0, 0, 0), 2);
        x.voice(0, 0, 21, 0, 0);
        CHECKS.due("of 6", x.verse(0, 0, 0), 2);
        x.voice(0, 0, 12, 0, 0);
        CHECKS.due("of 7", x.verse(0, 0, 0), 3);
        x.voice(0, 0, 14, 0, 0);
        x.voice(0, 0, 16, 0, 0);
        CHECKS.due("of 9", x.verse(0, 0, 0), NONE);
        // those who sing WRONG don't count
        CHECKS.due("of BOOMERS", State.read("tune 0;voice 3 0 0 0 11").verse(0, 0, 0), NONE);
        CHECKS.due("going round", goingRound().verse(0, 0, 0), NONE);
        CHECKS.due("out of reach", State.read("tune 7;voice 1 0 0 0 9;knows 0 0").verse(0, 3, 0), NONE);
        CHECKS.due("in reach", State.read("tune 7;voice 1 0 0 0 9;knows 0 0").verse(0, 2, 0), 0);
    }

    private static void settles() {
        CHECKS.due("of nobody", State.read("tune 0").verse(0, 0, 1), 0);
        CHECKS.due("of silence", State.read("tune 0;voice 0 0 0 0 0").verse(0, 0, 1), 0);
        CHECKS.due("of one", State.read("tune 0;voice 1 0 0 0 11;knows 0 0").verse(0, 0, 1), 0);
        WhichOneAllKnow x = State.read("tune 0;voice 1 0 0 0 11;voice 0 0 1 3 11;voice 0 0 2 3 11;"
                + "voice 0 0 3 3 11;voice 0 0 23 0 0;knows 0 0");
        CHECKS.due("of a row", x.verse(0, 0, 1), 3);
        CHECKS.due("going round", goingRound().verse(0, 0, 1), NONE);
        // a DRAGGER makes VERSES 0 and 1 the same, but not the ones behind
        CHECKS.due("with a DRAGGER", State.read("tune 0;voice 1 0 0 0 11;voice 6 0 1 1 11;knows 0 0;knows 1 0")
                .verse(0, 0, 1), 2);
        // only who mimes changes
        CHECKS.due("with a MIME", State.read("tune 0;voice 1 0 0 0 11;voice 5 1 1 0 11;knows 0 0")
                .verse(0, 0, 1), 1);
    }

    private static void verseRefuses() {
        CHECKS.refused(HymnTest::two, -11, "verse(2, 6, 2)", x -> x.verse(2, 6, 2));
        CHECKS.refused(HymnTest::two, -11, "verse(-1, 0, 0)", x -> x.verse(-1, 0, 0));
        CHECKS.refused(HymnTest::two, -15, "verse(0, 6, 2)", x -> x.verse(0, 6, 2));
        CHECKS.refused(HymnTest::two, -15, "verse(0, 0, -1)", x -> x.verse(0, 0, -1));
        CHECKS.refused(HymnTest::two, -16, "verse(0, 6, 0)", x -> x.verse(0, 6, 0));
        CHECKS.refused(HymnTest::two, -16, "verse(0, -1, 1)", x -> x.verse(0, -1, 1));
    }
}

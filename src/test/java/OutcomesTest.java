/** Promises 21 to 28 and 31: what comes of it, with nothing changed. Due answers are worked out by hand. */
public final class OutcomesTest {
    private static final int NONE = WhichOneAllKnow.NONE;
    private static final String A_VERSE = "a number that may not be (a PITCH, a VERSE";
    private static final String IN_ORDER = "the first that fits, in this order";
    private static final Checks CHECKS = new Checks();

    public static void main(String[] args) {
        best();
        bestRefuses();
        pitch();
        pitchRefuses();
        two();
        leaders();
        leadersOfSeveral();
        leadersRefuses();
        taught();
        taughtRefuses();
        helps();
        helpsRefuses();
        late();
        ahead();
        known();
        knownRefuses();
        nothingChanges();
        CHECKS.close();
    }

    /** Six VOICES none of whom is NEAR another, BOLD 2: each sings just the TUNES he KNOWS. */
    private static WhichOneAllKnow apart(int top, String knows) {
        return State.read("tune 0;tune 0;tune 3;voice 0 0 0 2 " + top + ";voice 0 0 2 2 " + top
                + ";voice 0 0 4 2 " + top + ";voice 0 0 12 2 " + top + ";voice 0 0 14 2 " + top
                + ";voice 0 0 16 2 " + top + knows);
    }

    private static WhichOneAllKnow fewKnow() {
        WhichOneAllKnow x = apart(11, ";knows 0 1;knows 1 1;knows 2 2");
        x.image();
        x.act(3, 2, 7);
        return x;
    }

    /** Six TUNES, twelve VOICES apart from or beside each other: each sings just the TUNES he KNOWS. */
    private static WhichOneAllKnow twelve(String knows) {
        WhichOneAllKnow x = State.read("tune 0;tune 0;tune 0;tune 0;tune 0;tune 0;voice 1 0 0 0 11;voice 1 0 1 0 11;"
                + "voice 1 0 2 0 11;voice 1 0 3 0 11;voice 1 0 4 0 11;voice 1 0 5 0 11;voice 1 0 18 0 11;"
                + "voice 1 0 19 0 11;voice 1 0 20 0 11;voice 1 0 21 0 11;voice 1 0 22 0 11;voice 1 0 23 0 11");
        for (String pair : knows.split(" ")) {
            x.knows(Integer.parseInt(pair.split("-")[0]), Integer.parseInt(pair.split("-")[1]), true);
        }
        return x;
    }

    /**
     * Of three ASTRAY beside a BOOMER the one at 7 sings RIGHT at the VERSES 0, 2, .., the two at 14 and 2, whom he
     * leads and who outsing him, at 1, 3, ..
     */
    private static final String EVEN_AND_ODD = "voice 3 0 12 0 2;voice 4 0 14 1 2;voice 4 0 2 1 2;voice 4 0 7 2 2;"
            + "knows 1 0;knows 2 0;knows 3 0";

    private static void best() {
        String sentence = "BEST TUNE at a PITCH by VERSE v: by which most sing RIGHT at v, of several the first.";
        CHECKS.test(21, sentence, "most of three; one more is enough", () -> {
            CHECKS.due("best(0, 0)", fewKnow().best(0, 0), 1);
            CHECKS.due("best(5, 40)", fewKnow().best(5, 40), 1);
            CHECKS.due("one of none, one of two", apart(11, ";knows 5 2").best(0, 0), 2);
        });
        CHECKS.test(21, sentence, "of several the first, of none at all, too", () -> {
            CHECKS.due("1 and 2", apart(11, ";knows 0 2;knows 1 1").best(0, 3), 1);
            CHECKS.due("0 and 2", apart(11, ";knows 0 2;knows 1 0").best(0, 3), 0);
            CHECKS.due("none sings any", apart(11, "").best(0, 3), 0);
            CHECKS.due("nobody is there", State.read("tune 3;tune 0").best(0, 0), 0);
        });
        CHECKS.test(21, sentence, "the sixth TUNE, of twelve VOICES", () -> {
            CHECKS.due("best(0, 0)", twelve("0-5").best(0, 0), 5);
            CHECKS.due("best(0, 40)", twelve("0-4 1-4 2-5 3-5 4-5 5-5").best(0, 40), 5);
        });
        CHECKS.test(21, sentence, "at the PITCH: just in reach, just out of it", () -> {
            WhichOneAllKnow x = apart(5, ";knows 0 2;knows 1 2;knows 0 1");
            CHECKS.due("best(2, 0)", x.best(2, 0), 2);
            CHECKS.due("best(3, 0)", x.best(3, 0), 1);
        });
        CHECKS.test(21, sentence, "by VERSE v, not by another, from 0 to 40", () -> {
            // TUNE 1 is ahead by VERSE 0, TUNE 0 by VERSE 1
            WhichOneAllKnow y = State.read("tune 0;tune 0;voice 1 0 0 0 11;voice 2 1 1 0 11;voice 2 1 6 0 11;"
                    + "voice 0 0 22 2 11;voice 0 0 4 2 11;knows 0 0;knows 3 1;knows 4 1");
            CHECKS.due("best(0, 0)", y.best(0, 0), 1);
            CHECKS.due("best(0, 1)", y.best(0, 1), 0);
            WhichOneAllKnow x = State.read("tune 0;tune 0;" + EVEN_AND_ODD + ";voice 1 0 23 0 11;voice 1 0 5 0 11;"
                    + "knows 4 1;knows 5 1");
            for (int verse = 0; verse <= 40; verse++) {
                CHECKS.due("best(0, " + verse + "), one or two against two", x.best(0, verse), verse % 2 == 0 ? 1 : 0);
            }
        });
    }

    private static void bestRefuses() {
        CHECKS.test(21, "BEST TUNE. -5 no TUNES; -6.", "-5, with VOICES or without", () -> {
            CHECKS.refused(WhichOneAllKnow::new, -5, "best(0, 0)", x -> x.best(0, 0));
            CHECKS.refused(() -> State.read("voice 0 0 0 0 0"), -5, "best(0, 0)", x -> x.best(0, 0));
        });
        CHECKS.test(21, A_VERSE, "-6, PITCH just outside of 0 to 5", () ->
                CHECKS.refusedEach(OutcomesTest::fewKnow, -6, "best(_, 0)", (x, p) -> x.best(p, 0),
                        Checks.outside(0, 5)));
        CHECKS.test(21, A_VERSE, "-6, VERSE just outside of 0 to 40", () ->
                CHECKS.refusedEach(OutcomesTest::fewKnow, -6, "best(0, _)", (x, v) -> x.best(0, v),
                        Checks.outside(0, 40)));
        CHECKS.test(21, IN_ORDER, "-5 ahead of -6", () -> {
            CHECKS.refusedEach(WhichOneAllKnow::new, -5, "best(_, 0)", (x, p) -> x.best(p, 0), Checks.outside(0, 5));
            CHECKS.refusedEach(WhichOneAllKnow::new, -5, "best(0, _)", (x, v) -> x.best(0, v), Checks.outside(0, 40));
        });
    }

    private static void pitch() {
        String sentence = "PITCH that is best of a TUNE by v: likewise, of several the highest.";
        CHECKS.test(22, sentence, "of several the highest, of none at all, too", () -> {
            WhichOneAllKnow x = apart(5, ";knows 0 0;knows 0 2");
            CHECKS.due("all are alike", x.pitch(0, 0), 5);
            CHECKS.due("0 to 2 are alike", x.pitch(2, 0), 2);
            CHECKS.due("none sings", x.pitch(1, 0), 5);
            CHECKS.due("nobody is there", State.read("tune 11").pitch(0, 40), 5);
        });
        CHECKS.test(22, sentence, "only the lowest PITCH is in reach", () -> {
            CHECKS.due("of TOP 3", apart(3, ";knows 0 2").pitch(2, 0), 0);
            CHECKS.due("of TOP 2", apart(2, ";knows 0 2").pitch(2, 0), 5);
        });
        CHECKS.test(22, sentence, "most sing at one between", () -> {
            // a BOOMER with TOP 3 leads the ASTRAY astray until the PITCH is too high for him
            WhichOneAllKnow y = State.read("tune 2;voice 3 0 0 0 3;voice 4 0 1 2 11;voice 0 0 23 2 6;knows 1 0;knows 2 0");
            CHECKS.due("pitch(0, 0)", y.pitch(0, 0), 4);
            CHECKS.due("pitch(0, 1)", y.pitch(0, 1), 4);
            y.knows(2, 0, false);
            CHECKS.due("pitch(0, 1)", y.pitch(0, 1), 5);
        });
        CHECKS.test(22, sentence, "by v, not by another VERSE, from 0 to 40", () -> {
            // at the PITCHES 3 to 5 only the ASTRAY at 17 sings, whom the BOOMER at 23 leads astray at the others
            WhichOneAllKnow x = State.read("tune 0;" + EVEN_AND_ODD + ";voice 3 0 23 0 2;voice 4 0 17 2 11;knows 5 0");
            for (int verse = 0; verse <= 40; verse++) {
                CHECKS.due("pitch(0, " + verse + ")", x.pitch(0, verse), verse > 0 && verse % 2 == 0 ? 5 : 2);
            }
        });
        CHECKS.test(22, sentence, "the sixth TUNE", () -> {
            WhichOneAllKnow x = twelve("11-5");
            CHECKS.due("pitch(5, 0)", x.pitch(5, 0), 5);
        });
    }

    private static void pitchRefuses() {
        CHECKS.test(22, "PITCH that is best. -1; -6.", "-1, no such TUNE", () -> {
            CHECKS.refusedEach(OutcomesTest::fewKnow, -1, "pitch(_, 0)", (x, t) -> x.pitch(t, 0), Checks.outside(0, 2));
            CHECKS.refused(WhichOneAllKnow::new, -1, "pitch(0, 0)", x -> x.pitch(0, 0));
        });
        CHECKS.test(22, A_VERSE, "-6, VERSE just outside of 0 to 40", () ->
                CHECKS.refusedEach(OutcomesTest::fewKnow, -6, "pitch(0, _)", (x, v) -> x.pitch(0, v),
                        Checks.outside(0, 40)));
        CHECKS.test(22, IN_ORDER, "-1 ahead of -6", () ->
                CHECKS.order(OutcomesTest::fewKnow, 0, "pitch", (x, n) -> x.pitch(n[0], n[1]),
                        new int[][] {{0, 0}, {3, -1}, {-1, -1}}, new int[][] {{0, 0}, {41, -6}, {-1, -6}}));
    }

    private static void two() {
        CHECKS.test(23, "of several the first (10 times the lesser and the other); NONE: fewer than two.",
                "none, one, two TUNES", () -> {
            CHECKS.due("of no TUNES", new WhichOneAllKnow().two(0), NONE);
            CHECKS.due("of one", State.read("tune 0;voice 1 0 0 0 11;knows 0 0").two(40), NONE);
            CHECKS.due("of two, nobody is there", State.read("tune 0;tune 0").two(0), 1);
        });
        CHECKS.test(23, "the pair by which most sing RIGHT in one of the two at least, of several the first",
                "pairs in their order", () -> {
            CHECKS.due("none sings", apart(11, "").two(0), 1);
            CHECKS.due("all alike", apart(11, ";knows 0 0;knows 1 1;knows 2 2").two(0), 1);
            CHECKS.due("0 and 2", apart(11, ";knows 0 0;knows 1 1;knows 2 2;knows 3 2").two(7), 2);
            CHECKS.due("0 with 2, 1 with 2 alike", apart(11, ";knows 0 2;knows 1 2").two(7), 2);
            CHECKS.due("1 and 2", apart(11, ";knows 0 1;knows 1 1;knows 2 2").two(0), 12);
            // 0 with 5 is ahead of 1 with 2
            CHECKS.due("0 with 5 or 1 with 2", twelve("0-0 1-0 2-5 3-5 0-1 2-1 1-2 3-2").two(0), 5);
        });
        CHECKS.test(23, "in one of the two at least", "who sings RIGHT in both counts once", () ->
                // 0 and 1 are known by most, but by the same VOICES
                CHECKS.due("0 and 2", apart(11, ";knows 0 0;knows 1 0;knows 0 1;knows 1 1;knows 2 2").two(40), 2));
        CHECKS.test(23, "(10 times the lesser and the other)", "the last pair of six, by one VOICE, by twelve", () -> {
            CHECKS.due("45", twelve("0-4 1-5").two(0), 45);
            CHECKS.due("45", twelve("0-4 1-4 2-4 3-4 4-4 5-4 6-5 7-5 8-5 9-5 10-5 11-5").two(40), 45);
            CHECKS.due("5", twelve("0-5").two(0), 5);
        });
        CHECKS.test(23, "TWO TUNES (at PITCH 0, by v)", "not at another PITCH, not by another VERSE", () -> {
            // TUNE 2 is HIGH 3: just in reach at PITCH 0
            CHECKS.due("of TOP 3", apart(3, ";knows 0 0;knows 1 2;knows 2 2").two(0), 2);
            CHECKS.due("of TOP 2", apart(2, ";knows 0 0;knows 1 2;knows 2 2").two(0), 1);
            // so with the lesser of the two: TUNE 0 is HIGH 3
            for (int top = 2; top <= 3; top++) {
                WhichOneAllKnow z = State.read("tune 3;tune 0;tune 0;voice 1 0 0 0 " + top + ";voice 1 0 5 0 " + top
                        + ";voice 1 0 18 0 11;voice 1 0 23 0 11;knows 0 0;knows 1 0;knows 2 1;knows 3 2");
                CHECKS.due("of TOP " + top, z.two(0), top == 3 ? 1 : 12);
            }
            // TUNE 2 comes to be sung by one more with each VERSE
            WhichOneAllKnow x = State.read("tune 0;tune 0;tune 0;voice 1 0 0 0 11;voice 1 0 22 0 11;voice 2 1 1 0 11;"
                    + "voice 1 0 18 0 11;knows 0 2;knows 1 0;knows 3 1");
            CHECKS.due("two(0)", x.two(0), 1);
            CHECKS.due("two(1)", x.two(1), 2);
            CHECKS.due("two(40)", x.two(40), 2);
            // three or four by 0 and 1, four by 1 and 2
            WhichOneAllKnow y = State.read("tune 0;tune 0;tune 0;" + EVEN_AND_ODD + ";voice 1 0 23 0 11;voice 1 0 22 0 11;"
                    + "voice 1 0 5 0 11;voice 1 0 11 0 11;knows 4 1;knows 5 1;knows 6 2;knows 7 2");
            for (int verse = 0; verse <= 40; verse++) {
                CHECKS.due("two(" + verse + ")", y.two(verse), verse % 2 == 0 ? 12 : 1);
            }
        });
        CHECKS.test(23, "TWO; NONE. -16 (counted as -6).", "VERSE just outside of 0 to 40, with TUNES or without",
                () -> {
            CHECKS.refusedEach(OutcomesTest::fewKnow, -16, "two(_)", (x, v) -> x.two(v), Checks.outside(0, 40));
            CHECKS.refusedEach(WhichOneAllKnow::new, -16, "two(_)", (x, v) -> x.two(v), Checks.outside(0, 40));
        });
    }

    private static void led(WhichOneAllKnow x, int verse, int k, int... due) {
        for (int i = NONE; i < k; i++) {
            String call = "leaders(0, 0, " + verse + ", " + k + ", " + i + ")";
            CHECKS.due(call, x.leaders(0, 0, verse, k, i), due[i + 1]);
        }
    }

    private static WhichOneAllKnow corners() {
        // two VOICES with NEED 1 who can't hear each other
        WhichOneAllKnow x = State.read("tune 0;voice 0 0 0 3 11;voice 0 0 23 3 11");
        x.image();
        x.act(1, 2, 3);
        return x;
    }

    private static void leaders() {
        CHECKS.test(24, "LEADERS: how many sing RIGHT (i NONE), the i-th PLACE.",
                "one, two, the first and the last of them", () -> {
            led(corners(), 1, 1, 1, 1);
            led(corners(), 1, 2, 2, 1, 16);
        });
        CHECKS.test(24, "(leaders not counted)", "at VERSE 0 only leaders sing", () -> {
            led(corners(), 0, 1, 0, 1);
            led(corners(), 0, 2, 0, 1, 2);
            led(State.read("tune 0;voice 2 0 0 0 11"), 0, 2, 1, 1, 2);
        });
        CHECKS.test(24, "LEADERS, k of them (1, 2) on free PLACES", "one with NEED 2 wants two of them", () -> {
            WhichOneAllKnow x = State.read("tune 0;voice 0 0 0 2 11;voice 0 0 23 0 0");
            led(x, 5, 1, 0, 1);
            led(x, 5, 2, 1, 1, 6);
            x.move(1, 6);
            led(x, 5, 2, 1, 1, 7);
            x.move(1, 1);
            led(x, 5, 2, 1, 6, 7);
        });
        CHECKS.test(24, "TOP 11", "HIGH and PITCH 11 are in reach of leaders, 12 are not", () -> {
            WhichOneAllKnow y = State.read("tune 11;voice 2 1 1 0 11");
            CHECKS.due("PITCH 0", y.leaders(0, 0, 1, 1, NONE), 1);
            CHECKS.due("PITCH 1", y.leaders(0, 1, 1, 1, NONE), 0);
            WhichOneAllKnow z = State.read("tune 10;voice 0 0 8 3 11");
            CHECKS.due("HIGH 10, PITCH 1", z.leaders(0, 1, 1, 1, NONE), 1);
            CHECKS.due("HIGH 10, PITCH 1", z.leaders(0, 1, 1, 1, 0), 1);
            CHECKS.due("HIGH 10, PITCH 2", z.leaders(0, 2, 1, 1, NONE), 0);
            CHECKS.due("HIGH 10, PITCH 2", z.leaders(0, 2, 1, 1, 0), 0);
        });
        CHECKS.test(24, "(each a LEADING, who KNOWS all", "the first and the sixth TUNE, which nobody KNOWS", () -> {
            WhichOneAllKnow x = State.read("tune 0;tune 0;tune 0;tune 0;tune 0;tune 0;voice 2 1 0 0 11");
            for (int t = 0; t <= 5; t++) {
                CHECKS.due("leaders(" + t + ", 0, 1, 1, NONE)", x.leaders(t, 0, 1, 1, NONE), 1);
                CHECKS.due("leaders(" + t + ", 0, 1, 1, 0)", x.leaders(t, 0, 1, 1, 0), 1);
            }
        });
        CHECKS.test(24, "(each a LEADING, who KNOWS all", "not led astray", () -> {
            // BOOMERS all around PLACE 7, where he must stand to keep the ASTRAY at 0 RIGHT: two of G, one and one of R
            WhichOneAllKnow x = State.read("tune 0;voice 4 0 0 5 11;voice 3 0 1 0 11;voice 3 0 8 0 11;voice 3 0 14 0 11");
            led(x, 5, 1, 1, 6);
            led(x, 5, 2, 1, 2, 6);
        });
        CHECKS.test(24, "LEADERS, k of them (1, 2) on free PLACES", "beside twelve VOICES", () -> {
            WhichOneAllKnow full = State.read("tune 0");
            for (int v = 0; v < 12; v++) {
                full.voice(2, 1, v, 0, 11);
            }
            led(full, 1, 1, 3, 13);
            led(full, 1, 2, 6, 13, 16);
            led(full, 2, 2, 12, 12, 15);
        });
        CHECKS.test(24, "LEADERS, k of them (1, 2) on free PLACES", "where nobody is", () -> {
            led(State.read("tune 0"), 0, 1, 0, 0);
            led(State.read("tune 0"), 40, 2, 0, 0, 1);
        });
    }

    private static void leadersOfSeveral() {
        String sentence = "of several the first by rows (lesser PLACES first)";
        CHECKS.test(24, sentence, "one of them, the last PLACE when it alone will do", () -> {
            // the one with NEED 1 at 22 hears 15, 16, 17, 21, 23: all but 23 are taken
            WhichOneAllKnow x = State.read("tune 0;voice 0 0 22 3 11;voice 0 0 15 0 0;voice 0 0 16 0 0;voice 0 0 17 0 0;"
                    + "voice 0 0 21 0 0");
            led(x, 1, 1, 1, 23);
            led(x, 1, 2, 1, 0, 23);
            x.move(1, 0);
            led(x, 1, 1, 1, 15);
        });
        CHECKS.test(24, sentence, "two of them: the first PLACE counts ahead of the second", () -> {
            // NEED 2 at 22, which hears 15, 16, 17, 21, 23: 16 is taken
            WhichOneAllKnow x = State.read("tune 0;voice 0 0 22 2 11;voice 0 0 16 0 0");
            led(x, 1, 2, 1, 15, 17);
            x.move(1, 15);
            led(x, 1, 2, 1, 16, 17);
            x.voice(0, 0, 16, 0, 0);
            x.voice(0, 0, 17, 0, 0);
            led(x, 1, 2, 1, 21, 23);
        });
        CHECKS.test(24, sentence, "taken PLACES are left out, though nobody sings there", () -> {
            WhichOneAllKnow x = State.read("tune 0;voice 0 0 0 0 0;voice 0 0 1 0 0;voice 0 0 3 0 0");
            led(x, 3, 1, 0, 2);
            led(x, 3, 2, 0, 2, 4);
        });
        CHECKS.test(24, "the PLACES by which most sing RIGHT (leaders not counted) at v",
                "not at another VERSE, to 40", () -> {
            // JOINING in a ROW of PLACES: the last hears him later
            WhichOneAllKnow x = State.read("tune 0;voice 2 1 1 0 11;voice 2 1 2 0 11;voice 2 1 3 0 11;voice 2 1 4 0 11");
            int[][] due = {{0, 0}, {3, 8}, {4, 8}, {4, 7}, {4, 0}, {4, 0}};
            for (int verse = 0; verse < due.length; verse++) {
                led(x, verse, 1, due[verse]);
            }
            led(x, 40, 1, 4, 0);
            led(x, 40, 2, 4, 0, 5);
        });
    }

    private static void leadersRefuses() {
        CHECKS.test(24, "-1; -5 no such i; -6 k not 1 or 2, a PITCH, a VERSE.", "-1, no such TUNE", () -> {
            CHECKS.refusedEach(OutcomesTest::corners, -1, "leaders(_, 0, 0, 1, 0)", (x, t) -> x.leaders(t, 0, 0, 1, 0),
                    Checks.outside(0, 0));
            CHECKS.refused(WhichOneAllKnow::new, -1, "leaders(0, 0, 0, 1, 0)", x -> x.leaders(0, 0, 0, 1, 0));
        });
        CHECKS.test(24, "-5 no such i;", "just outside of NONE to 0 of one, of NONE to 1 of two", () -> {
            CHECKS.refusedEach(OutcomesTest::corners, -5, "leaders(0, 0, 0, 1, _)", (x, i) -> x.leaders(0, 0, 0, 1, i),
                    Checks.outside(-1, 0));
            CHECKS.refusedEach(OutcomesTest::corners, -5, "leaders(0, 0, 0, 2, _)", (x, i) -> x.leaders(0, 0, 0, 2, i),
                    Checks.outside(-1, 1));
        });
        CHECKS.test(24, "-6 k not 1 or 2", "just outside, and the farthest, with an i that may be", () -> {
            CHECKS.refusedEach(OutcomesTest::corners, -6, "leaders(0, 0, 0, _, NONE)",
                    (x, k) -> x.leaders(0, 0, 0, k, NONE),
                    Checks.outside(1, 2));
            CHECKS.refusedEach(OutcomesTest::corners, -6, "leaders(0, 0, 0, _, 0)", (x, k) -> x.leaders(0, 0, 0, k, 0),
                    Checks.outside(1, 2));
        });
        CHECKS.test(24, "is looked at only if that other one may be; else it is -6.",
                "k that may not be, i that is none", () -> {
            CHECKS.refusedEach(OutcomesTest::corners, -6, "leaders(0, 0, 0, 3, _)", (x, i) -> x.leaders(0, 0, 0, 3, i),
                    2, 3, -2);
            CHECKS.refusedEach(OutcomesTest::corners, -6, "leaders(0, 0, 0, 0, _)", (x, i) -> x.leaders(0, 0, 0, 0, i),
                    0, 5, -2);
            CHECKS.refusedEach(OutcomesTest::corners, -6, "leaders(0, 6, 41, _, 9)",
                    (x, k) -> x.leaders(0, 6, 41, k, 9),
                    Checks.outside(1, 2));
        });
        CHECKS.test(24, "-6 k not 1 or 2, a PITCH, a VERSE.", "PITCH just outside of 0 to 5, VERSE of 0 to 40", () -> {
            CHECKS.refusedEach(OutcomesTest::corners, -6, "leaders(0, _, 0, 1, 0)", (x, p) -> x.leaders(0, p, 0, 1, 0),
                    Checks.outside(0, 5));
            CHECKS.refusedEach(OutcomesTest::corners, -6, "leaders(0, 0, _, 2, 0)", (x, v) -> x.leaders(0, 0, v, 2, 0),
                    Checks.outside(0, 40));
        });
        CHECKS.test(24, IN_ORDER, "-1, -5 of an i that goes with k, -6", () -> {
            int[][] tunes = {{0, 0}, {1, -1}, {-1, -1}};
            int[][] pitches = {{0, 0}, {6, -6}, {-1, -6}};
            int[][] verses = {{0, 0}, {41, -6}, {-1, -6}};
            Checks.AllOpen call = (x, n) -> x.leaders(n[0], n[1], n[2], n[3], n[4]);
            CHECKS.order(OutcomesTest::corners, 0, "leaders", call, tunes, pitches, verses,
                    new int[][] {{1, 0}}, new int[][] {{0, 0}, {NONE, 0}, {1, -5}, {-2, -5}});
            CHECKS.order(OutcomesTest::corners, 0, "leaders", call, tunes, pitches, verses,
                    new int[][] {{2, 0}}, new int[][] {{1, 0}, {2, -5}, {-2, -5}});
            CHECKS.order(OutcomesTest::corners, 0, "leaders", call, tunes, pitches, verses,
                    new int[][] {{0, -6}, {3, -6}, {-1, -6}}, new int[][] {{0, 0}, {9, 0}, {-2, 0}});
        });
    }

    private static void taught() {
        CHECKS.test(25, "the fewest VOICES (0 to 3)", "none, where it CATCHES already, and where nobody is", () -> {
            CHECKS.due("of nobody", State.read("tune 0").taught(0, 0), 0);
            CHECKS.due("three of six do", apart(11, ";knows 0 0;knows 4 0;knows 5 0").taught(0, 0), 0);
        });
        CHECKS.test(25, "the fewest VOICES (0 to 3)", "one, two, three", () -> {
            CHECKS.due("one", apart(11, ";knows 0 0;knows 4 0").taught(0, 0), 2);
            CHECKS.due("two", apart(11, ";knows 0 0").taught(0, 0), 6);
            CHECKS.due("three", apart(11, "").taught(0, 0), 7);
        });
        CHECKS.test(25, "the fewest VOICES (0 to 3)", "four would be needed: NONE", () -> {
            WhichOneAllKnow seven = apart(11, "");
            seven.voice(0, 0, 5, 2, 11);
            CHECKS.due("of seven", seven.taught(0, 0), NONE);
            seven.knows(6, 0, true);
            CHECKS.due("of seven, one KNOWS it", seven.taught(0, 0), 7);
        });
        CHECKS.test(25, "TAUGHT; NONE.", "nobody is in reach, or too few", () -> {
            CHECKS.due("TOP 4, HIGH 3, PITCH 2", apart(4, "").taught(2, 2), NONE);
            CHECKS.due("TOP 4, HIGH 3, PITCH 1", apart(4, "").taught(2, 1), 7);
        });
        CHECKS.test(25, "of several the least as bits", "those in reach", () -> {
            WhichOneAllKnow x = State.read("tune 0;voice 0 0 0 2 0;voice 0 0 2 2 11;voice 0 0 4 2 11");
            CHECKS.due("PITCH 0", x.taught(0, 0), 3);
            CHECKS.due("PITCH 1", x.taught(0, 1), 6);
        });
        CHECKS.test(25, "of several the least as bits", "1 and 2 are less than 0 and 3", () -> {
            // 4 joins by 0 and 3 together, 5 by 1 and 2 together
            WhichOneAllKnow x = State.read("tune 0;voice 0 0 0 2 11;voice 0 0 20 2 11;voice 0 0 22 2 11;voice 0 0 2 2 11;"
                    + "voice 2 2 1 0 11;voice 2 2 21 0 11");
            CHECKS.due("taught(0, 0)", x.taught(0, 0), 6);
            x.move(2, 17);
            x.move(2, 5);
            CHECKS.due("taught(0, 0) with 1 and 2 apart", x.taught(0, 0), 9);
        });
        CHECKS.test(25, "of several the least as bits", "the last three of twelve, two of the last", () -> {
            WhichOneAllKnow x = State.read("tune 0");
            for (int v = 0; v < 12; v++) {
                x.voice(1, 0, v < 6 ? v : 12 + v, 0, v < 6 ? 0 : 11);
            }
            x.knows(6, 0, true);
            x.knows(7, 0, true);
            x.knows(8, 0, true);
            CHECKS.due("taught(0, 1)", x.taught(0, 1), 0b111000000000);
            x.knows(9, 0, true);
            CHECKS.due("taught(0, 1)", x.taught(0, 1), 0b110000000000);
        });
        CHECKS.test(25, "who must learn a TUNE so that it CATCHES at a PITCH", "who learns it brings others along",
                () ->
                CHECKS.due("a LEADING",
                        State.read("tune 0;voice 0 0 0 0 11;voice 1 0 1 0 11;voice 2 1 2 0 11;voice 0 0 23 0 0")
                        .taught(0, 0), 2));
        CHECKS.test(25, "who must learn a TUNE so that it CATCHES at a PITCH", "at any VERSE, the first, too", () -> {
            // with the ASTRAY taught it CATCHES at VERSE 0 alone
            WhichOneAllKnow x = State.read("tune 0;voice 3 5 0 0 11;voice 4 0 1 2 11");
            CHECKS.due("taught(0, 0)", x.taught(0, 0), 1);
            x.knows(0, 0, false);
            WhichOneAllKnow y = State.read("tune 0;voice 5 0 0 0 11;voice 3 0 1 0 0;voice 4 0 7 2 11;voice 5 0 6 0 11");
            CHECKS.due("of four, one can sing RIGHT", y.taught(0, 1), NONE);
        });
    }

    private static void taughtRefuses() {
        CHECKS.test(25, "TAUGHT; NONE. -11; -16 (counted as -1, -6).", "-11, no such TUNE", () -> {
            CHECKS.refusedEach(OutcomesTest::corners, -11, "taught(_, 0)", (x, t) -> x.taught(t, 0),
                    Checks.outside(0, 0));
            CHECKS.refused(WhichOneAllKnow::new, -11, "taught(0, 0)", x -> x.taught(0, 0));
        });
        CHECKS.test(25, "-16 (counted as -1, -6).", "PITCH just outside of 0 to 5", () ->
                CHECKS.refusedEach(OutcomesTest::corners, -16, "taught(0, _)", (x, p) -> x.taught(0, p),
                        Checks.outside(0, 5)));
        CHECKS.test(25, IN_ORDER, "-11 ahead of -16", () ->
                CHECKS.order(OutcomesTest::corners, 10, "taught", (x, n) -> x.taught(n[0], n[1]),
                        new int[][] {{0, 0}, {1, -1}, {-1, -1}}, new int[][] {{0, 0}, {6, -6}, {-1, -6}}));
    }

    private static void helps() {
        // a BOOMER leads the ASTRAY at PLACE 1 astray; the LEADING at 22 brings in the VOICE at 23
        String church = "tune 0;voice 3 0 0 0 11;voice 4 0 1 2 11;voice 1 0 22 0 11;voice 0 0 23 3 11;knows 1 0;knows 2 0";
        CHECKS.test(26, "less how many without (as if he weren't there)",
                "fewer by him, below 0, and nothing is refused", () -> {
            WhichOneAllKnow x = State.read(church);
            CHECKS.due("BOOMER at 0", x.helps(0, 0, 0, 0), 0);
            CHECKS.due("BOOMER at 1", x.helps(0, 0, 0, 1), -1);
            CHECKS.due("BOOMER at 40", x.helps(0, 0, 0, 40), -1);
            CHECKS.noneRefused(x);
        });
        CHECKS.test(26, "how many (but he) sing RIGHT at it with him", "he himself doesn't count", () -> {
            WhichOneAllKnow x = State.read(church);
            CHECKS.due("ASTRAY at 0", x.helps(1, 0, 0, 0), 0);
            CHECKS.due("LEADING at 0", x.helps(2, 0, 0, 0), 0);
            CHECKS.due("who joins, at 40", x.helps(3, 0, 0, 40), 0);
            CHECKS.due("alone", State.read("tune 0;voice 2 0 0 0 11").helps(0, 0, 0, 0), 0);
        });
        CHECKS.test(26, "HELPS, one VOICE, a TUNE, PITCH, VERSE", "at the VERSES 0, 1, 40, the PITCHES 0 to 5", () -> {
            WhichOneAllKnow x = State.read("tune 0;voice 1 0 22 0 3;voice 0 0 23 3 11;knows 0 0");
            CHECKS.due("at 0", x.helps(0, 0, 0, 0), 0);
            CHECKS.due("at 1", x.helps(0, 0, 0, 1), 1);
            for (int pitch = 0; pitch <= 5; pitch++) {
                CHECKS.due("at PITCH " + pitch, x.helps(0, 0, pitch, 40), pitch <= 3 ? 1 : 0);
            }
            // without the BOOMER all three ASTRAY sing RIGHT from VERSE 1 on
            WhichOneAllKnow y = State.read("tune 0;" + EVEN_AND_ODD);
            for (int verse = 0; verse <= 40; verse++) {
                CHECKS.due("BOOMER at " + verse, y.helps(0, 0, 0, verse), verse == 0 ? 0 : verse % 2 == 0 ? -2 : -1);
            }
        });
        CHECKS.test(26, "(as if he weren't there)", "who MIMES, or is out of reach", () -> {
            WhichOneAllKnow x = State.read("tune 5;voice 5 0 0 0 11;voice 0 0 1 3 11;voice 1 0 23 0 4;voice 0 0 22 3 11;knows 2 0");
            CHECKS.due("MIME", x.helps(0, 0, 0, 1), 1);
            CHECKS.due("out of reach", x.helps(2, 0, 0, 9), 0);
        });
        CHECKS.test(26, "HELPS, one VOICE, a TUNE, PITCH, VERSE",
                "the twelfth VOICE brings in all others, the sixth TUNE", () -> {
            WhichOneAllKnow x = State.read("tune 0;tune 0;tune 0;tune 0;tune 0;tune 0");
            for (int v = 0; v < 12; v++) {
                x.voice(v == 11 ? 1 : 2, 1, v, 0, 11);
            }
            x.knows(11, 5, true);
            CHECKS.due("helps(11, 5, 0, 1)", x.helps(11, 5, 0, 1), 3);
            CHECKS.due("helps(11, 5, 0, 40)", x.helps(11, 5, 0, 40), 11);
            CHECKS.due("helps(0, 5, 0, 40)", x.helps(0, 5, 0, 40), 0);
        });
    }

    private static void helpsRefuses() {
        CHECKS.test(26, "-101 VOICE, TUNE; -106 (counted as -1, -6).", "-101, no such VOICE, no such TUNE, neither",
                () -> {
            CHECKS.refusedEach(OutcomesTest::corners, -101, "helps(_, 0, 0, 0)", (x, v) -> x.helps(v, 0, 0, 0),
                    Checks.outside(0, 1));
            CHECKS.refusedEach(OutcomesTest::corners, -101, "helps(0, _, 0, 0)", (x, t) -> x.helps(0, t, 0, 0),
                    Checks.outside(0, 0));
            CHECKS.refused(WhichOneAllKnow::new, -101, "helps(0, 0, 0, 0)", x -> x.helps(0, 0, 0, 0));
            CHECKS.refused(() -> State.read("tune 0"), -101, "helps(0, 0, 0, 0) of nobody", x -> x.helps(0, 0, 0, 0));
        });
        CHECKS.test(26, "-106 (counted as -1, -6).", "PITCH just outside of 0 to 5, VERSE of 0 to 40", () -> {
            CHECKS.refusedEach(OutcomesTest::corners, -106, "helps(0, 0, _, 0)", (x, p) -> x.helps(0, 0, p, 0),
                    Checks.outside(0, 5));
            CHECKS.refusedEach(OutcomesTest::corners, -106, "helps(0, 0, 0, _)", (x, v) -> x.helps(0, 0, 0, v),
                    Checks.outside(0, 40));
        });
        CHECKS.test(26, IN_ORDER, "-101 ahead of -106", () ->
                CHECKS.order(OutcomesTest::corners, 100, "helps", (x, n) -> x.helps(n[0], n[1], n[2], n[3]),
                        new int[][] {{0, 0}, {2, -1}, {-1, -1}}, new int[][] {{0, 0}, {1, -1}, {-1, -1}},
                        new int[][] {{0, 0}, {6, -6}, {-1, -6}}, new int[][] {{0, 0}, {41, -6}, {-1, -6}}));
    }

    private static WhichOneAllKnow waiting(int wait) {
        WhichOneAllKnow x = new WhichOneAllKnow();
        x.ask(wait);
        return x;
    }

    private static void late() {
        CHECKS.test(27, "the organ FOLLOWS: WAIT times t", "of no VERSES to 99, WAIT 0 to 9, 2 at first", () -> {
            for (int wait = 0; wait <= 9; wait++) {
                for (int t : new int[] {0, 1, 50, 99}) {
                    CHECKS.due("late(" + t + ", NONE), WAIT " + wait, waiting(wait).late(t, NONE), wait * t);
                }
            }
            CHECKS.due("late(99, NONE) at first", new WhichOneAllKnow().late(99, NONE), 198);
        });
        CHECKS.test(27, "as if LATE became WAIT more and n less with each, 0 at least", "n below, at and above WAIT",
                () -> {
            for (int wait = 0; wait <= 9; wait++) {
                for (int n = 0; n <= 9; n++) {
                    for (int t : new int[] {0, 1, 2, 99}) {
                        int late = 0;
                        for (int verse = 0; verse < t; verse++) {
                            late = Math.max(0, late + wait - n);
                        }
                        CHECKS.due("late(" + t + ", " + n + "), WAIT " + wait, waiting(wait).late(t, n), late);
                    }
                }
            }
        });
        CHECKS.test(27, "LATE behind t VERSES (0 to 99)", "-6, just outside, and the farthest", () -> {
            CHECKS.refusedEach(WhichOneAllKnow::new, -6, "late(_, 0)", (x, t) -> x.late(t, 0), Checks.outside(0, 99));
            CHECKS.refusedEach(WhichOneAllKnow::new, -6, "late(_, NONE)", (x, t) -> x.late(t, NONE),
                    Checks.outside(0, 99));
        });
        CHECKS.test(27, "the organ LEADS by n (NONE: it FOLLOWS). -6.",
                "n just outside of NONE to 9, and the farthest", () -> {
            CHECKS.refusedEach(WhichOneAllKnow::new, -6, "late(0, _)", (x, n) -> x.late(0, n), Checks.outside(-1, 9));
            CHECKS.refused(WhichOneAllKnow::new, -6, "late(100, 10)", x -> x.late(100, 10));
        });
    }

    private static void ahead() {
        CHECKS.test(28, "AHEAD: the least n by which LATE is l (0 to 99) at most behind t",
                "just at most l, one above it", () -> {
            int[][] cases = {
                // WAIT, t, l, due
                {2, 10, 9, 2}, {2, 10, 10, 1}, {2, 10, 19, 1}, {2, 10, 20, 0}, {9, 99, 99, 8}, {9, 99, 98, 9},
                        {9, 11, 99, 0},
                {9, 12, 99, 1}, {1, 99, 99, 0}, {1, 99, 98, 1},
            };
            for (int[] c : cases) {
                CHECKS.due("ahead(" + c[1] + ", " + c[2] + "), WAIT " + c[0], waiting(c[0]).ahead(c[1], c[2]), c[3]);
            }
        });
        CHECKS.test(28, "AHEAD: the least n by which LATE is l (0 to 99) at most behind t", "no VERSES, WAIT 0, l 0",
                () -> {
            for (int wait = 0; wait <= 9; wait++) {
                CHECKS.due("ahead(0, 0), WAIT " + wait, waiting(wait).ahead(0, 0), 0);
                CHECKS.due("ahead(99, 0), WAIT " + wait, waiting(wait).ahead(99, 0), wait);
                CHECKS.due("ahead(1, 99), WAIT " + wait, waiting(wait).ahead(1, 99), 0);
            }
        });
        CHECKS.test(28, "AHEAD; NONE. -16 (counted as -6).",
                "there is always one, as n may be 9 and WAIT is 9 at most", () -> {
            for (int wait = 0; wait <= 9; wait++) {
                WhichOneAllKnow x = waiting(wait);
                for (int t = 0; t <= 99; t += 3) {
                    for (int l : new int[] {0, 1, 49, 99}) {
                        int least = 0;
                        while (t * (wait - least) > l) {
                            least++;
                        }
                        CHECKS.due("ahead(" + t + ", " + l + "), WAIT " + wait, x.ahead(t, l), least);
                    }
                }
            }
        });
        CHECKS.test(28, "AHEAD; NONE. -16 (counted as -6).", "t, l just outside of 0 to 99, and the farthest", () -> {
            CHECKS.refusedEach(WhichOneAllKnow::new, -16, "ahead(_, 0)", (x, t) -> x.ahead(t, 0),
                    Checks.outside(0, 99));
            CHECKS.refusedEach(WhichOneAllKnow::new, -16, "ahead(0, _)", (x, l) -> x.ahead(0, l),
                    Checks.outside(0, 99));
            CHECKS.refused(WhichOneAllKnow::new, -16, "ahead(100, -1)", x -> x.ahead(100, -1));
        });
    }

    private static void known() {
        CHECKS.test(31, "KNOWN by one (what 0)", "none, some, six TUNES, the twelfth VOICE", () -> {
            WhichOneAllKnow x = apart(11, ";knows 0 0;knows 0 2;knows 3 1");
            CHECKS.due("known(0, 0)", x.known(0, 0), 2);
            CHECKS.due("known(3, 0)", x.known(3, 0), 1);
            CHECKS.due("known(5, 0)", x.known(5, 0), 0);
            CHECKS.due("known(11, 0)", twelve("11-0 11-1 11-2 11-3 11-4 11-5").known(11, 0), 6);
        });
        CHECKS.test(31, "by all together (1; whatever voice)", "of nobody, of none, of twelve who KNOW six", () -> {
            CHECKS.due("of nobody", State.read("tune 0").known(0, 1), 0);
            CHECKS.due("of none", apart(11, "").known(0, 1), 0);
            WhichOneAllKnow x = twelve("0-0");
            for (int v = 0; v < 12; v++) {
                for (int t = 0; t < 6; t++) {
                    x.knows(v, t, true);
                }
            }
            for (int v : new int[] {0, 12, -1, Integer.MIN_VALUE, Integer.MAX_VALUE}) {
                CHECKS.due("known(" + v + ", 1)", x.known(v, 1), 72);
            }
        });
        CHECKS.test(31, "ALL (2; whatever voice; of nobody: all TUNES)", "of nobody: no TUNES to six", () -> {
            WhichOneAllKnow x = new WhichOneAllKnow();
            for (int tunes = 0; tunes <= 6; tunes++) {
                CHECKS.due("of " + tunes, x.known(-1, 2), (1 << tunes) - 1);
                x.tune(0);
            }
        });
        CHECKS.test(31, "ALL: TUNES (bits) all KNOW", "all but one KNOW it, all KNOW it", () -> {
            WhichOneAllKnow x = twelve("0-5");
            for (int v = 0; v < 12; v++) {
                CHECKS.due("known(99, 2), VOICE " + v + " doesn't", x.known(99, 2), 0);
                x.knows(v, 5, true);
            }
            CHECKS.due("known(99, 2)", x.known(99, 2), 32);
            CHECKS.due("of one", State.read("tune 0;tune 0;voice 0 0 0 0 0;knows 0 1").known(0, 2), 2);
        });
        CHECKS.test(31, "the VOICE whose KNOWS is the same as most others', of several the first", "alike, two, three",
                () -> {
            CHECKS.due("of one", State.read("voice 0 0 0 0 0").known(-5, 3), 0);
            CHECKS.due("all differ", State.read("tune 0;voice 0 0 0 0 0;voice 0 0 1 0 0;knows 1 0").known(0, 3), 0);
            CHECKS.due("two and two",
                    apart(11, ";knows 0 0;knows 1 1;knows 2 2;knows 3 1;knows 4 2;knows 5 0;knows 5 1")
                    .known(0, 3), 1);
            CHECKS.due("two and three", apart(11, ";knows 0 0;knows 1 0;knows 2 2;knows 4 2;knows 5 2;knows 3 1")
                    .known(99, 3), 2);
            CHECKS.due("who KNOW none", apart(11, ";knows 0 0;knows 1 0;knows 2 2").known(0, 3), 3);
        });
        CHECKS.test(31, "ASK looks at all TUNES one KNOWS together.", "not at how many, not at one of them", () -> {
            // 0 and 1 KNOW as many, and 0 shares a TUNE with each; only 4 and 5 KNOW the same
            WhichOneAllKnow x = apart(11,
                    ";knows 0 0;knows 0 1;knows 1 0;knows 1 2;knows 2 0;knows 3 1;knows 4 2;knows 5 2");
            CHECKS.due("known(0, 3)", x.known(0, 3), 4);
        });
        CHECKS.test(31, "the VOICE whose KNOWS is the same as most others', of several the first",
                "the last two of twelve", () -> {
            WhichOneAllKnow x = twelve("0-0 1-1 2-2 3-3 4-4 5-5 6-0 6-1 7-0 7-2 8-0 8-3 9-0 9-4");
            CHECKS.due("known(0, 3)", x.known(0, 3), 10);
        });
    }

    private static void knownRefuses() {
        CHECKS.test(31, "-1 VOICE (what 0);", "just outside, and the farthest, of six, of nobody", () -> {
            CHECKS.refusedEach(OutcomesTest::fewKnow, -1, "known(_, 0)", (x, v) -> x.known(v, 0), Checks.outside(0, 5));
            CHECKS.refused(WhichOneAllKnow::new, -1, "known(0, 0)", x -> x.known(0, 0));
        });
        CHECKS.test(31, "-5 another what", "just outside of 0 to 3, whatever VOICE", () -> {
            CHECKS.refusedEach(OutcomesTest::fewKnow, -5, "known(0, _)", (x, w) -> x.known(0, w), Checks.outside(0, 3));
            CHECKS.refusedEach(OutcomesTest::fewKnow, -5, "known(6, _)", (x, w) -> x.known(6, w), Checks.outside(0, 3));
        });
        CHECKS.test(31, "ASK of nobody.", "-5, with TUNES or without; of one it may be", () -> {
            CHECKS.refused(WhichOneAllKnow::new, -5, "known(0, 3)", x -> x.known(0, 3));
            CHECKS.refused(() -> State.read("tune 0"), -5, "known(-1, 3)", x -> x.known(-1, 3));
        });
    }

    private static void nothingChanges() {
        CHECKS.test(21, "(nothing is changed)", "by none of what comes of it", () -> {
            WhichOneAllKnow x = fewKnow();
            WhichOneAllKnow y = fewKnow();
            State.row(x, 0, 1, 2, 2);
            State.row(y, 0, 1, 2, 2);
            x.best(0, 40);
            x.pitch(0, 40);
            x.two(40);
            x.leaders(0, 0, 3, 1, 0);
            x.leaders(0, 0, 3, 2, NONE);
            x.taught(1, 0);
            x.taught(2, 5);
            x.helps(0, 0, 0, 3);
            x.late(3, 3);
            x.ahead(3, 3);
            x.fits(0, 3, 0);
            x.changed(0, 3, 0, 0);
            x.known(0, 3);
            x.sung(1, 0, 9, 3);
            x.verse(1, 0, 1);
            x.needs(0, 0);
            CHECKS.same("all that", State.of(x), State.of(y));
            x.restore();
            y.restore();
            CHECKS.same("restore()", State.of(x), State.of(y));
        });
    }
}

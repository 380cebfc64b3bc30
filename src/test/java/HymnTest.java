/** Promises 18 to 20: a HYMN VERSE by VERSE. Each due answer is worked out by hand beside its church. */
public final class HymnTest {
    private static final int NONE = WhichOneAllKnow.NONE;
    private static final String CATCHES = "at which those who sing RIGHT are half of all VOICES at least (of nobody at 0)";
    private static final String SETTLES =
            "It SETTLES at the first VERSE (0 to 40) from which on all is the same for three VERSES more";
    private static final String JOINS = "He joins in, if R, G and M together are NEED at least;";
    private static final String DRAGS =
            "DRAGGER only if that was so at the VERSE ahead, too (by those NEAR him then; ahead of VERSE 0 nobody was heard).";
    private static final Checks CHECKS = new Checks();

    public static void main(String[] args) {
        near();
        reach();
        joins();
        drags();
        sings();
        mimes();
        versesAndPitches();
        emptyAndFull();
        sungRefuses();
        needs();
        needsRefuses();
        catches();
        settles();
        verseRefuses();
        CHECKS.close();
    }

    private static void sung(WhichOneAllKnow x, int pitch, int what, int... due) {
        for (int verse = 0; verse < due.length; verse++) {
            String call = "sung(0, " + pitch + ", " + verse + ", " + what + ")";
            CHECKS.due(call, x.sung(0, pitch, verse, what), due[verse]);
        }
    }

    private static void near() {
        CHECKS.test(18, "NEAR a PLACE: the PLACES a ROW or a SEAT away, or both (8 at most)",
                "of each PLACE, each other", () -> {
            for (int p = 0; p < 24; p++) {
                for (int q = 0; q < 24; q++) {
                    if (p != q) {
                        WhichOneAllKnow x = State.read("tune 0;voice 1 0 " + p + " 0 11;voice 0 0 " + q + " 3 11;knows 0 0");
                        boolean near = Math.abs(p / 6 - q / 6) <= 1 && Math.abs(p % 6 - q % 6) <= 1;
                        CHECKS.due(q + " is NEAR " + p, x.sung(0, 0, 0, 3), near ? 2 : 0);
                        CHECKS.due(q + " joins " + p, x.sung(0, 0, 1, 0), near ? 3 : 1);
                    }
                }
            }
        });
        CHECKS.test(18, "NEAR a PLACE: the PLACES a ROW or a SEAT away, or both (8 at most)",
                "3 of a corner, 5 of a side, 8", () -> {
            int[][] cases = {{0, 3}, {5, 3}, {18, 3}, {23, 3}, {2, 5}, {6, 5}, {11, 5}, {17, 5}, {20, 5}, {7, 8},
                    {16, 8}};
            for (int[] c : cases) {
                int near = 0;
                for (int q = 0; q < 24; q++) {
                    if (q != c[0]) {
                        WhichOneAllKnow x = State.read("tune 0;voice 1 0 " + c[0] + " 0 11;voice 0 0 " + q + " 0 0;knows 0 0");
                        near += x.sung(0, 0, 0, 3) >> 1;
                    }
                }
                CHECKS.due("so many NEAR " + c[0], near, c[1]);
            }
        });
        CHECKS.test(18, "NEAR a PLACE: the PLACES a ROW or a SEAT away, or both (8 at most)", "nobody is NEAR himself",
                () -> {
            WhichOneAllKnow x = State.read("tune 0;voice 2 0 8 0 11");
            sung(x, 0, 3, 0, 0);
            // with a 1 he'd join in by himself, had he ever begun
            sung(State.read("tune 0;voice 2 1 8 0 11"), 0, 0, 0, 0, 0);
        });
        CHECKS.test(18, "NEAR one who sings RIGHT (3; in reach or not)",
                "RIGHT himself or not, in reach or not; not NEAR one WRONG", () -> {
            WhichOneAllKnow x = State.read("tune 5;voice 1 0 0 0 11;voice 1 0 1 0 11;voice 0 0 6 0 0;voice 3 0 3 0 11;"
                    + "voice 0 0 4 0 11;voice 0 0 2 0 4;knows 0 0;knows 1 0");
            sung(x, 0, 0, 3, 3);
            sung(x, 0, 1, 8, 8);
            sung(x, 0, 3, 0b100111, 0b100111);
        });
    }

    private static void reach() {
        String sentence = "A VOICE is in reach, if HIGH of the TUNE and PITCH are TOP at most. Who isn't, is never heard.";
        CHECKS.test(18, sentence, "just in reach, just out of it, who sings RIGHT, WRONG, MIMES", () -> {
            WhichOneAllKnow x = State.read("tune 8;voice 1 0 0 0 11;voice 3 0 1 0 10;voice 5 0 2 0 9;knows 0 0");
            int[][] due = {{1, 2, 4}, {1, 2, 4}, {1, 2, 0}, {1, 0, 0}, {0, 0, 0}, {0, 0, 0}};
            for (int pitch = 0; pitch <= 5; pitch++) {
                for (int what = 0; what <= 2; what++) {
                    sung(x, pitch, what, due[pitch][what]);
                }
            }
        });
        CHECKS.test(18, sentence, "the least and the greatest HIGH and TOP", () -> {
            for (int high = 0; high <= 11; high++) {
                for (int top = 0; top <= 11; top++) {
                    WhichOneAllKnow x = State.read("tune " + high + ";voice 2 0 0 0 " + top);
                    for (int pitch = 0; pitch <= 5; pitch++) {
                        CHECKS.due("TOP " + top + ", HIGH " + high + ", PITCH " + pitch, x.sung(0, pitch, 0, 0),
                                high + pitch <= top ? 1 : 0);
                    }
                }
            }
        });
        CHECKS.test(18, sentence, "nobody joins by one who isn't", () -> {
            // LEADING, MIME and BOOMER out of reach; NEAR them one with NEED 1
            WhichOneAllKnow x = State.read("tune 6;voice 1 0 0 0 5;voice 5 0 1 0 5;voice 3 0 2 0 5;voice 0 0 7 3 11;knows 0 0");
            for (int what = 0; what <= 3; what++) {
                sung(x, 0, what, 0, 0, 0);
            }
        });
    }

    private static void joins() {
        CHECKS.test(18, JOINS, "just as many as NEED, one more, one less", () -> {
            // NEED 4 at PLACE 7, by three, four, five LEADING around him
            int[] places = {7, 0, 1, 2, 6, 8};
            for (int singers = 3; singers <= 5; singers++) {
                WhichOneAllKnow x = State.read("tune 0;voice 0 0 7 0 11");
                for (int v = 1; v <= singers; v++) {
                    x.voice(1, 0, places[v], 0, 11);
                    x.knows(v, 0, true);
                }
                int around = (1 << singers + 1) - 2;
                sung(x, 0, 0, around, singers >= 4 ? around | 1 : around);
            }
        });
        CHECKS.test(18, JOINS, "RIGHT, WRONG and MIMES count alike", () -> {
            // JOINING with a 3 at 7; LEADING at 0, BOOMER at 1, MIME at 2
            WhichOneAllKnow x = State.read("tune 0;voice 2 3 7 0 11;voice 1 0 0 0 11;voice 3 0 1 0 11;voice 5 0 2 0 11;knows 1 0");
            sung(x, 0, 0, 2, 3, 3);
            for (int gone = 1; gone <= 3; gone++) {
                WhichOneAllKnow y = State.read("tune 0;voice 2 3 7 0 11;voice 1 0 0 0 11;voice 3 0 1 0 11;voice 5 0 2 0 11;"
                        + "knows 1 0;moves " + gone + " 23");
                sung(y, 0, 0, 2, 2, 2);
            }
        });
        CHECKS.test(18, JOINS, "a of 8 with eight around him, a of 9 never", () -> {
            for (int a = 7; a <= 9; a++) {
                WhichOneAllKnow x = State.read("tune 0;voice 2 " + a + " 7 0 11");
                int[] around = {0, 1, 2, 6, 8, 12, 13, 14};
                for (int place : around) {
                    x.voice(2, 0, place, 0, 11);
                }
                sung(x, 0, 0, 510, a <= 8 ? 511 : 510, a <= 8 ? 511 : 510);
            }
        });
        CHECKS.test(18, "(at VERSE 0 nobody was heard)", "only who has NEED 0 begins", () -> {
            WhichOneAllKnow x = State.read("tune 0;voice 1 0 0 0 11;voice 0 0 6 2 11;voice 0 0 1 1 11;voice 0 0 7 5 11;"
                    + "voice 2 0 18 0 11;voice 2 1 19 0 11;voice 3 0 23 0 11;voice 4 0 5 2 11;voice 6 0 4 2 11;"
                    + "knows 0 0;knows 1 0;knows 2 0;knows 7 0;knows 8 0");
            sung(x, 0, 0, 0b110010011);
            sung(x, 0, 1, 0b001000000);
        });
        CHECKS.test(18, JOINS, "one after the other, as they come to be heard", () -> {
            // in one ROW: 0 LEADING; 1 VOICE, BOLD 3, KNOWS nothing: NEED 1; 2 VOICE, BOLD 1, KNOWS it: NEED 1;
            // 3 JOINING, a 1; 4 LEADING, BOLD 2, KNOWS nothing: NEED 2
            WhichOneAllKnow x = State.read("tune 0;voice 1 0 0 0 11;voice 0 9 1 3 11;voice 0 9 2 1 11;"
                    + "voice 2 1 3 0 11;voice 1 0 4 2 11;knows 0 0;knows 2 0");
            sung(x, 0, 0, 1, 3, 7, 15, 15, 15);
            sung(x, 0, 1, 0, 0, 0, 0, 0);
            sung(x, 0, 2, 0, 0, 0, 0, 0);
            sung(x, 0, 3, 2, 7, 15, 31, 31);
            // NEED 2 has two NEAR now
            x.voice(1, 0, 5, 0, 11);
            x.knows(5, 0, true);
            sung(x, 0, 0, 33, 35, 39, 47, 63, 63);
        });
        CHECKS.test(18, JOINS, "by another TUNE that he KNOWS nobody is helped", () -> {
            WhichOneAllKnow x = State.read("tune 0;tune 0;voice 1 0 0 0 11;knows 0 1");
            sung(x, 0, 0, 0, 0);
            CHECKS.due("sung(1, 0, 0, 0)", x.sung(1, 0, 0, 0), 1);
        });
    }

    private static void drags() {
        CHECKS.test(18, DRAGS, "NEED 1 joins a VERSE later than others do", () -> {
            // LEADING, and a DRAGGER NEAR him with NEED 1, and one with NEED 0 far away
            WhichOneAllKnow x = State.read("tune 0;voice 1 0 0 0 11;voice 6 0 1 1 11;voice 6 0 23 2 11;"
                    + "knows 0 0;knows 1 0;knows 2 0");
            sung(x, 0, 0, 5, 5, 7, 7);
            // behind a VOICE who joins at VERSE 1 a DRAGGER joins at 3; WRONG counts for it too
            WhichOneAllKnow y = State.read("tune 0;voice 3 0 0 0 11;voice 0 0 1 3 11;voice 6 0 2 1 11;knows 2 0");
            sung(y, 0, 0, 0, 0, 0, 0, 0);
            sung(y, 0, 1, 1, 3, 3, 7, 7);
        });
        CHECKS.test(18, "A DRAGGER joins in at VERSE 1 only if his NEED is 0",
                "eight LEADING around him, NEED 0, 1, 2", () -> {
            for (int bold = 0; bold <= 2; bold++) {
                WhichOneAllKnow x = State.read("tune 0;voice 6 0 7 " + bold + " 11;knows 0 0");
                int[] around = {0, 1, 2, 6, 8, 12, 13, 14};
                for (int v = 1; v <= 8; v++) {
                    x.voice(1, 0, around[v - 1], 0, 11);
                    x.knows(v, 0, true);
                }
                sung(x, 0, 0, bold == 2 ? 511 : 510, bold == 2 ? 511 : 510, 511, 511);
            }
        });
        CHECKS.test(18, DRAGS, "NEED 2 by one NEAR him then and two now: not yet", () -> {
            // LEADING at 0 is heard at once, the VOICE at 2 (NEED 1, by the LEADING at 3) a VERSE later
            WhichOneAllKnow x = State.read("tune 0;voice 6 0 1 0 11;voice 1 0 0 0 11;voice 0 0 2 3 11;voice 1 0 3 0 11;"
                    + "knows 0 0;knows 1 0;knows 3 0");
            sung(x, 0, 0, 0b1010, 0b1110, 0b1110, 0b1111, 0b1111);
        });
        CHECKS.test(18, DRAGS, "MIMES were heard then, too", () -> {
            WhichOneAllKnow x = State.read("tune 0;voice 5 0 0 0 11;voice 6 0 1 1 11;knows 1 0");
            sung(x, 0, 0, 0, 0, 2, 2);
        });
        CHECKS.test(18, DRAGS, "however bold, without the TUNE he has NEED 1", () -> {
            sung(State.read("tune 0;voice 6 0 0 5 11"), 0, 0, 0, 0, 0);
            sung(State.read("tune 0;voice 6 0 0 5 11;voice 1 0 1 0 11;knows 1 0"), 0, 0, 2, 2, 3, 3);
        });
    }

    private static void sings() {
        CHECKS.test(18, "Who joins in sings RIGHT, if he KNOWS it.", "whoever is WRONG around him, but ASTRAY", () -> {
            // at 7 a VOICE, LEADING, JOINING, BOOMER in turn who KNOWS it, among three BOOMERS who don't
            for (int kind = 0; kind <= 3; kind++) {
                WhichOneAllKnow x = State.read("tune 0;voice " + kind + " 0 7 2 11;voice 3 0 0 0 11;voice 3 0 1 0 11;"
                        + "voice 3 0 2 0 11;knows 0 0");
                sung(x, 0, 0, 1, 1, 1);
                sung(x, 0, 1, 14, 14, 14);
            }
        });
        CHECKS.test(18, "BOOMER WRONG;", "who doesn't KNOW it, whoever is RIGHT around him", () -> {
            WhichOneAllKnow x = State.read("tune 0;voice 3 0 7 5 11;voice 1 0 0 0 11;voice 1 0 1 0 11;knows 1 0;knows 2 0");
            sung(x, 0, 0, 6, 6, 6);
            sung(x, 0, 1, 1, 1, 1);
        });
        for (int kind : new int[] {0, 1, 2}) {
            CHECKS.test(18, "others WRONG, if G is more than R, else RIGHT", "KIND " + kind + ", G and R 0 to 2", () ->
                    led(kind, false));
        }
        for (int kind : new int[] {4, 6}) {
            CHECKS.test(18, "ASTRAY (DRAGGER): WRONG, if G is more than R, even if he KNOWS it.",
                    "KIND " + kind + ", KNOWS it", () ->
                    led(kind, true));
            CHECKS.test(18, "others WRONG, if G is more than R, else RIGHT", "KIND " + kind + ", doesn't KNOW it", () ->
                    led(kind, false));
        }
        CHECKS.test(18, "WRONG, if G is more than R", "MIMES are neither", () -> {
            WhichOneAllKnow x = State.read("tune 0;voice 0 0 1 3 11;voice 5 0 0 0 11;voice 5 0 2 0 11");
            sung(x, 0, 0, 0, 1, 1);
            WhichOneAllKnow y = State.read("tune 0;voice 0 0 1 3 11;voice 5 0 0 0 11;voice 5 0 2 0 11;voice 3 0 7 0 11");
            sung(y, 0, 1, 8, 9, 9);
        });
        CHECKS.test(18, "ASTRAY (DRAGGER): WRONG, if G is more than R, even if he KNOWS it.",
                "at VERSE 0 nobody leads him", () -> {
            WhichOneAllKnow x = State.read("tune 0;voice 3 0 7 0 11;voice 4 0 0 2 11;voice 6 0 14 2 11;knows 1 0;knows 2 0");
            sung(x, 0, 0, 6, 0, 0);
            sung(x, 0, 1, 1, 7, 7);
        });
    }

    /** At PLACE 7 one of a KIND, JOINING with a 1; around him so many RIGHT (LEADING) and WRONG (BOOMER). */
    private static void led(int kind, boolean knowsIt) {
        for (int right = 0; right <= 2; right++) {
            for (int wrong = 0; wrong <= 2; wrong++) {
                WhichOneAllKnow x = State.read("tune 0;voice " + kind + " 1 7 " + (knowsIt ? 1 : 3) + " 11");
                x.knows(0, 0, knowsIt);
                for (int i = 0; i < right; i++) {
                    x.knows(x.voice(1, 0, i, 0, 11), 0, true);
                }
                for (int i = 0; i < wrong; i++) {
                    x.voice(3, 0, 12 + i, 0, 11);
                }
                String among = "among " + right + " RIGHT, " + wrong + " WRONG";
                CHECKS.due("RIGHT " + among, x.sung(0, 0, 9, 0) & 1, right + wrong > 0 && wrong <= right ? 1 : 0);
                CHECKS.due("WRONG " + among, x.sung(0, 0, 9, 1) & 1, wrong > right ? 1 : 0);
            }
        }
    }

    private static void mimes() {
        CHECKS.test(18, "MIME mimes, however.", "whether he KNOWS it or not, with a 0 and a 1", () -> {
            // LEADING, MIME with a 1 who KNOWS it, VOICE with NEED 1 behind him; a MIME with a 0 far away
            WhichOneAllKnow x = State.read("tune 0;voice 1 0 0 0 11;voice 5 1 1 5 11;voice 0 0 2 3 11;"
                    + "voice 5 0 23 0 11;knows 0 0;knows 1 0");
            sung(x, 0, 0, 1, 1, 5, 5);
            sung(x, 0, 1, 0, 0, 0, 0);
            sung(x, 0, 2, 8, 10, 10, 10);
            sung(x, 0, 3, 2, 2, 2, 2);
        });
        CHECKS.test(18, "MIME mimes, however.", "among BOOMERS, too", () -> {
            WhichOneAllKnow x = State.read("tune 0;voice 5 1 0 5 11;voice 3 0 1 0 11;voice 3 0 6 0 11");
            sung(x, 0, 1, 6, 6);
            sung(x, 0, 2, 0, 1);
        });
    }

    static WhichOneAllKnow goingRound() {
        // BOOMER at 6; ASTRAY at 7 (NEED 0) NEAR him; ASTRAY at 8 (NEED 1) NEAR 7 only:
        // 8 follows 7, and 7 is RIGHT just when 8 was
        return State.read("tune 0;voice 3 0 6 0 11;voice 4 0 7 2 11;voice 4 0 8 1 11;knows 1 0;knows 2 0");
    }

    private static void versesAndPitches() {
        CHECKS.test(18, "VOICES (bits) at a VERSE (0 to 40)", "each from the first to the last, going round for ever",
                () -> {
            WhichOneAllKnow x = goingRound();
            for (int verse = 0; verse <= 40; verse++) {
                CHECKS.due("RIGHT at " + verse, x.sung(0, 0, verse, 0), verse % 2 == 0 ? 2 : 4);
                CHECKS.due("WRONG at " + verse, x.sung(0, 0, verse, 1), verse == 0 ? 1 : verse % 2 == 0 ? 5 : 3);
            }
            CHECKS.noneRefused(x);
        });
        CHECKS.test(18, "A TUNE, AT A PITCH (0 to 5)", "the first and the last may be", () -> {
            WhichOneAllKnow x = State.read("tune 0;voice 2 0 0 0 4;voice 2 0 23 0 5");
            CHECKS.due("sung(0, 0, 0, 0)", x.sung(0, 0, 0, 0), 3);
            CHECKS.due("sung(0, 5, 0, 0)", x.sung(0, 5, 0, 0), 2);
            CHECKS.due("sung(0, 5, 40, 3)", x.sung(0, 5, 40, 3), 0);
        });
    }

    private static void emptyAndFull() {
        CHECKS.test(18, "Who joins in sings RIGHT, if he KNOWS it.", "one TUNE behind another: each by who KNOWS it",
                () -> {
            WhichOneAllKnow x = State.read("tune 0;tune 6;voice 3 0 0 0 11;voice 6 0 1 2 9;knows 0 0;knows 1 0");
            for (int time = 0; time < 3; time++) {
                CHECKS.due("sung(0, 0, 0, 0)", x.sung(0, 0, 0, 0), 3);
                CHECKS.due("sung(1, 0, 0, 0)", x.sung(1, 0, 0, 0), 0);
                CHECKS.due("sung(1, 0, 0, 1)", x.sung(1, 0, 0, 1), 1);
                CHECKS.due("sung(0, 0, 3, 0)", x.sung(0, 0, 3, 0), 3);
                CHECKS.due("sung(1, 4, 9, 1)", x.sung(1, 4, 9, 1), 1);
            }
        });
        CHECKS.test(18, "VOICES (bits) at a VERSE (0 to 40): RIGHT (what 0)", "of nobody", () -> {
            for (int what = 0; what <= 3; what++) {
                sung(State.read("tune 0"), 0, what, 0, 0);
            }
        });
        CHECKS.test(18, "VOICES (bits) at a VERSE (0 to 40): RIGHT (what 0), WRONG (1), MIMING (2)", "all of twelve",
                () -> {
            int[] kinds = {2, 3, 5};
            for (int what = 0; what <= 2; what++) {
                WhichOneAllKnow x = State.read("tune 0");
                for (int v = 0; v < 12; v++) {
                    x.voice(kinds[what], 0, 23 - v, 0, 11);
                }
                for (int other = 0; other <= 2; other++) {
                    sung(x, 0, other, other == what ? 4095 : 0, other == what ? 4095 : 0);
                }
                sung(x, 0, 3, what == 0 ? 4095 : 0);
            }
        });
        CHECKS.test(18, "TUNES have numbers, from 0 on, 6 at most", "the sixth is sung by who KNOWS it", () -> {
            WhichOneAllKnow x = State.read("tune 0;tune 0;tune 0;tune 0;tune 0;tune 0;voice 1 0 0 0 11;knows 0 5");
            CHECKS.due("sung(5, 0, 0, 0)", x.sung(5, 0, 0, 0), 1);
            CHECKS.due("sung(4, 0, 0, 0)", x.sung(4, 0, 0, 0), 0);
        });
    }

    private static WhichOneAllKnow two() {
        WhichOneAllKnow x = State.read("tune 0;tune 1;voice 1 0 0 0 11;knows 0 0");
        x.image();
        x.act(0, 2, 1);
        return x;
    }

    private static void sungRefuses() {
        CHECKS.test(18, "-1 TUNE; -5 another what; -6.", "-1, no such TUNE", () -> {
            CHECKS.refusedEach(HymnTest::two, -1, "sung(_, 0, 0, 0)", (x, t) -> x.sung(t, 0, 0, 0),
                    Checks.outside(0, 1));
            CHECKS.refused(WhichOneAllKnow::new, -1, "sung(0, 0, 0, 0)", x -> x.sung(0, 0, 0, 0));
            CHECKS.refused(State::full, -1, "sung(6, 0, 0, 0)", x -> x.sung(6, 0, 0, 0));
        });
        CHECKS.test(18, "-5 another what", "just outside of 0 to 3, and the farthest", () ->
                CHECKS.refusedEach(HymnTest::two, -5, "sung(0, 0, 0, _)", (x, w) -> x.sung(0, 0, 0, w),
                        Checks.outside(0, 3)));
        CHECKS.test(18, "a number that may not be (a PITCH, a VERSE", "-6, PITCH just outside of 0 to 5", () ->
                CHECKS.refusedEach(HymnTest::two, -6, "sung(0, _, 0, 0)", (x, p) -> x.sung(0, p, 0, 0),
                        Checks.outside(0, 5)));
        CHECKS.test(18, "VOICES (bits) at a VERSE (0 to 40)", "-6, VERSE just outside of 0 to 40", () ->
                CHECKS.refusedEach(HymnTest::two, -6, "sung(0, 0, _, 0)", (x, v) -> x.sung(0, 0, v, 0),
                        Checks.outside(0, 40)));
        CHECKS.test(18, "the first that fits, in this order", "-1, -5, -6", () ->
                CHECKS.order(HymnTest::two, 0, "sung", (x, n) -> x.sung(n[0], n[1], n[2], n[3]),
                        new int[][] {{0, 0}, {2, -1}, {-1, -1}}, new int[][] {{0, 0}, {6, -6}, {-1, -6}},
                        new int[][] {{40, 0}, {41, -6}, {-1, -6}}, new int[][] {{3, 0}, {4, -5}, {-1, -5}}));
    }

    private static WhichOneAllKnow ofKind(int kind, int a) {
        WhichOneAllKnow x = State.read("tune 0");
        for (int v = 0; v < 12; v++) {
            x.voice(kind, a, v, v / 2, 0);
            x.knows(v, 0, v % 2 == 0);
        }
        return x;
    }

    /** For BOLD 0 to 5: due of one who KNOWS it, and of one who doesn't. */
    private static void needs(String sentence, int kind, int a, int[] knowing, int[] not) {
        CHECKS.test(19, sentence, "KIND " + kind + " with a " + a + ", BOLD 0 to 5", () -> {
            WhichOneAllKnow x = ofKind(kind, a);
            for (int v = 0; v < 12; v++) {
                CHECKS.due("needs(" + v + ", 0)", x.needs(v, 0), v % 2 == 0 ? knowing[v / 2] : not[v / 2]);
            }
        });
    }

    private static void needs() {
        int[] knowing = {2, 1, 0, 0, 0, 0};
        int[] not = {4, 3, 2, 1, 1, 1};
        int[] zeros = {0, 0, 0, 0, 0, 0};
        int[] nines = {9, 9, 9, 9, 9, 9};
        for (int kind : new int[] {0, 4, 6}) {
            needs("of one who KNOWS it 2 less BOLD (0 at least); of one who doesn't 4 less BOLD (1 at least)", kind, 9,
                    knowing, not);
        }
        needs("LEADING who KNOWS it: 0.", 1, 9, zeros, not);
        needs("BOOMER: 0 always.", 3, 9, zeros, zeros);
        for (int kind : new int[] {2, 5}) {
            needs("JOINING (MIME): a, whether he KNOWS it or not.", kind, 0, zeros, zeros);
            needs("JOINING (MIME): a, whether he KNOWS it or not.", kind, 9, nines, nines);
        }
        CHECKS.test(19, "NEED of a VOICE for a TUNE.", "for the last TUNE of the last VOICE, and out of reach", () -> {
            WhichOneAllKnow x = State.full();
            // VOICE 11: KIND 4, BOLD 5; VOICE 0: KIND 0, BOLD 0, TOP 0, and TUNE 5 is HIGH 5
            CHECKS.due("needs(11, 5)", x.needs(11, 5), 1);
            x.knows(11, 5, true);
            CHECKS.due("needs(11, 5), he KNOWS it", x.needs(11, 5), 0);
            CHECKS.due("needs(11, 4)", x.needs(11, 4), 1);
            CHECKS.due("needs(0, 5)", x.needs(0, 5), 4);
        });
    }

    private static void needsRefuses() {
        CHECKS.test(19, "NEED of a VOICE for a TUNE. -1.", "no such VOICE", () -> {
            CHECKS.refusedEach(HymnTest::two, -1, "needs(_, 0)", (x, v) -> x.needs(v, 0), Checks.outside(0, 0));
            CHECKS.refusedEach(State::full, -1, "needs(_, 0)", (x, v) -> x.needs(v, 0), Checks.outside(0, 11));
            CHECKS.refused(() -> State.read("tune 0"), -1, "needs(0, 0) of nobody", x -> x.needs(0, 0));
        });
        CHECKS.test(19, "NEED of a VOICE for a TUNE. -1.", "no such TUNE, or neither", () -> {
            CHECKS.refusedEach(HymnTest::two, -1, "needs(0, _)", (x, t) -> x.needs(0, t), Checks.outside(0, 1));
            CHECKS.refusedEach(State::full, -1, "needs(0, _)", (x, t) -> x.needs(0, t), Checks.outside(0, 5));
            CHECKS.refused(WhichOneAllKnow::new, -1, "needs(0, 0)", x -> x.needs(0, 0));
        });
    }

    /** In a ROW of PLACES one LEADING and three who join one by one: 1, 2, 3, 4 sing RIGHT; so many others don't. */
    private static WhichOneAllKnow joiningOneByOne(int others) {
        WhichOneAllKnow x = State.read("tune 0;voice 1 0 0 0 11;voice 0 0 1 3 11;voice 0 0 2 3 11;voice 0 0 3 3 11;knows 0 0");
        for (int i = 0; i < others; i++) {
            x.voice(0, 0, 23 - i, 0, 0);
        }
        return x;
    }

    /** DRAGGERS one behind the other, who then turn RIGHT one behind the other: found by a search for the longest. */
    private static WhichOneAllKnow longest() {
        return State.read("tune 0;voice 6 1 21 5 11;voice 0 3 7 0 11;voice 6 0 10 4 11;voice 6 2 9 4 11;voice 6 1 1 5 11;"
                + "voice 2 2 6 0 11;voice 6 2 13 3 11;voice 3 2 18 1 11;voice 6 1 2 1 11;voice 6 0 22 4 11;"
                + "voice 6 3 17 4 11;voice 6 2 20 3 11;knows 5 0;knows 8 0");
    }

    private static void catches() {
        CHECKS.test(20, CATCHES, "of nobody", () -> {
            for (int pitch = 0; pitch <= 5; pitch++) {
                CHECKS.due("verse(0, " + pitch + ", 0)", State.read("tune 11").verse(0, pitch, 0), 0);
            }
        });
        CHECKS.test(20, CATCHES, "just half, one less, of even and of odd", () -> {
            int[] due = {1, 2, 2, 3, 3, NONE};
            for (int others = 0; others < due.length; others++) {
                CHECKS.due((4 + others) + " VOICES", joiningOneByOne(others).verse(0, 0, 0), due[others]);
            }
            CHECKS.due("one of one", State.read("tune 0;voice 2 0 0 0 11").verse(0, 0, 0), 0);
            CHECKS.due("one of two", State.read("tune 0;voice 2 0 0 0 11;voice 0 0 1 0 0").verse(0, 0, 0), 0);
            CHECKS.due("none of one", State.read("tune 0;voice 0 0 0 0 11").verse(0, 0, 0), NONE);
        });
        CHECKS.test(20, CATCHES, "six of twelve, five of twelve", () -> {
            for (int few = 5; few <= 6; few++) {
                WhichOneAllKnow x = State.read("tune 0");
                for (int v = 0; v < 12; v++) {
                    x.voice(v < few ? 2 : 0, 0, 2 * v, 0, v < few ? 11 : 0);
                }
                CHECKS.due(few + " of 12", x.verse(0, 0, 0), few == 6 ? 0 : NONE);
            }
        });
        CHECKS.test(20, CATCHES, "WRONG and MIMES don't count as RIGHT, but as VOICES", () -> {
            CHECKS.due("BOOMER", State.read("tune 0;voice 3 0 0 0 11").verse(0, 0, 0), NONE);
            CHECKS.due("MIME", State.read("tune 0;voice 5 0 0 0 11").verse(0, 0, 0), NONE);
            CHECKS.due("one of three",
                    State.read("tune 0;voice 2 0 0 0 11;voice 3 0 23 0 11;voice 5 0 5 0 11").verse(0, 0, 0), NONE);
        });
        CHECKS.test(20, "It CATCHES at the first VERSE (0 to 40)", "the first, though they are fewer later on", () -> {
            WhichOneAllKnow x = State.read("tune 0;voice 3 0 0 0 11;voice 4 0 1 2 11;knows 1 0");
            sung(x, 0, 0, 2, 0, 0);
            CHECKS.due("verse(0, 0, 0)", x.verse(0, 0, 0), 0);
        });
        CHECKS.test(20, "It CATCHES at the first VERSE (0 to 40)", "late, after long being fewer; never, going round",
                () -> {
            WhichOneAllKnow x = longest();
            CHECKS.due("verse(0, 0, 0)", x.verse(0, 0, 0), 28);
            CHECKS.due("RIGHT at 27", Integer.bitCount(x.sung(0, 0, 27, 0)), 5);
            CHECKS.due("RIGHT at 28", Integer.bitCount(x.sung(0, 0, 28, 0)), 6);
            CHECKS.due("going round", goingRound().verse(0, 0, 0), NONE);
        });
        CHECKS.test(20, "The VERSE at which it CATCHES (what 0; NONE), SETTLES (1; NONE).", "at the PITCHES 0 to 5",
                () -> {
            WhichOneAllKnow x = State.read("tune 7;voice 2 0 0 0 9");
            for (int pitch = 0; pitch <= 5; pitch++) {
                CHECKS.due("verse(0, " + pitch + ", 0)", x.verse(0, pitch, 0), pitch <= 2 ? 0 : NONE);
                CHECKS.due("verse(0, " + pitch + ", 1)", x.verse(0, pitch, 1), 0);
            }
        });
    }

    private static void settles() {
        CHECKS.test(20, SETTLES, "of nobody, of silence, of one who sings, all at 0", () -> {
            CHECKS.due("of nobody", State.read("tune 0").verse(0, 0, 1), 0);
            CHECKS.due("of silence", State.read("tune 0;voice 0 0 0 0 0").verse(0, 0, 1), 0);
            CHECKS.due("of one", State.read("tune 0;voice 1 0 0 0 11;knows 0 0").verse(0, 0, 1), 0);
        });
        CHECKS.test(20, SETTLES, "once the last has joined in", () -> {
            CHECKS.due("of a row", joiningOneByOne(0).verse(0, 0, 1), 3);
            CHECKS.due("of a row and others", joiningOneByOne(8).verse(0, 0, 1), 3);
        });
        CHECKS.test(20, "(that one, and the next three); else it doesn't.",
                "two alike that don't stay so are not enough", () -> {
            // a DRAGGER makes VERSES 0 and 1 the same, but not the ones behind
            WhichOneAllKnow x = State.read("tune 0;voice 1 0 0 0 11;voice 6 0 1 1 11;knows 0 0;knows 1 0");
            sung(x, 0, 0, 1, 1, 3, 3, 3, 3);
            CHECKS.due("with a DRAGGER", x.verse(0, 0, 1), 2);
            // behind him another one: 1, 1, 3, 3, 7
            WhichOneAllKnow y = State.read("tune 0;voice 1 0 0 0 11;voice 6 0 1 1 11;voice 6 0 2 1 11;knows 0 0;knows 1 0;knows 2 0");
            sung(y, 0, 0, 1, 1, 3, 3, 7, 7, 7);
            CHECKS.due("with two", y.verse(0, 0, 1), 4);
        });
        CHECKS.test(20, SETTLES, "all: who sings RIGHT, who WRONG, who MIMES", () -> {
            CHECKS.due("only who mimes changes",
                    State.read("tune 0;voice 1 0 0 0 11;voice 5 1 1 0 11;knows 0 0").verse(0, 0, 1), 1);
            CHECKS.due("only who is WRONG changes",
                    State.read("tune 0;voice 3 0 0 0 11;voice 0 0 1 3 11").verse(0, 0, 1), 1);
            CHECKS.due("from RIGHT to WRONG",
                    State.read("tune 0;voice 3 0 0 0 11;voice 4 0 1 2 11;knows 1 0").verse(0, 0, 1), 1);
        });
        CHECKS.test(20, "(that one, and the next three); else it doesn't.", "going round for ever: NONE", () ->
                CHECKS.due("verse(0, 0, 1)", goingRound().verse(0, 0, 1), NONE));
        CHECKS.test(20, SETTLES, "late, as late as any was found to", () -> {
            WhichOneAllKnow x = longest();
            CHECKS.due("verse(0, 0, 1)", x.verse(0, 0, 1), 34);
            CHECKS.due("RIGHT at 33, not as at 34", x.sung(0, 0, 33, 0) == x.sung(0, 0, 34, 0) ? 1 : 0, 0);
            for (int what = 0; what <= 2; what++) {
                for (int verse = 35; verse <= 40; verse++) {
                    CHECKS.due("sung at " + verse, x.sung(0, 0, verse, what), x.sung(0, 0, 34, what));
                }
            }
        });
    }

    private static void verseRefuses() {
        CHECKS.test(20, "-11; -15 another what; -16 (counted as -1, -5, -6).", "-11, no such TUNE", () -> {
            CHECKS.refusedEach(HymnTest::two, -11, "verse(_, 0, 0)", (x, t) -> x.verse(t, 0, 0), Checks.outside(0, 1));
            CHECKS.refused(WhichOneAllKnow::new, -11, "verse(0, 0, 1)", x -> x.verse(0, 0, 1));
        });
        CHECKS.test(20, "-15 another what", "just outside of 0 and 1, and the farthest", () ->
                CHECKS.refusedEach(HymnTest::two, -15, "verse(0, 0, _)", (x, w) -> x.verse(0, 0, w),
                        Checks.outside(0, 1)));
        CHECKS.test(20, "-16 (counted as -1, -5, -6).", "PITCH just outside of 0 to 5, of each what", () -> {
            CHECKS.refusedEach(HymnTest::two, -16, "verse(0, _, 0)", (x, p) -> x.verse(0, p, 0), Checks.outside(0, 5));
            CHECKS.refusedEach(HymnTest::two, -16, "verse(0, _, 1)", (x, p) -> x.verse(0, p, 1), Checks.outside(0, 5));
        });
        CHECKS.test(20, "the first that fits, in this order", "-11, -15, -16", () ->
                CHECKS.order(HymnTest::two, 10, "verse", (x, n) -> x.verse(n[0], n[1], n[2]),
                        new int[][] {{0, 0}, {2, -1}, {-1, -1}}, new int[][] {{0, 0}, {6, -6}, {-1, -6}},
                        new int[][] {{0, 0}, {1, 0}, {2, -5}, {-1, -5}}));
    }
}

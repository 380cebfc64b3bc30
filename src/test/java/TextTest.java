/** Promises 16 and 17: a CHURCH read from a ROW of letters, and the FAULT. */
public final class TextTest {
    private static final int NONE = WhichOneAllKnow.NONE;
    private static final String ENDS_EARLY = "(the number of elements, if it ends too early)";
    private static final String FIRST_DIGIT = "of a NUMBER that may not be the place of its first digit";
    private static final String CANT_STAND =
            "The FAULT: the first place at which an element can't stand as such texts go on";
    private static final String NO_ROOM = "(what there is no room for can't stand: its word, once that is whole)";
    private static final String LETTERS_STAND = "Whether there is room for a word is asked when its letters stand whole:";
    private static final Checks CHECKS = new Checks();

    public static void main(String[] args) {
        items();
        numbers();
        rows();
        churchRefuses();
        wordsAndEnds();
        numbersThatMayNotBe();
        placesTaken();
        room();
        allOrNothing();
        latestFault();
        CHECKS.close();
    }

    /** Two TUNES, VOICE 0 at PLACE 3, VOICE 1 at PLACE 23, and an IMAGE of that; SHELF 0 shows VOICE 0. */
    private static WhichOneAllKnow small() {
        WhichOneAllKnow x = State.read("tune 4;tune 11;voice 2 9 3 5 11;voice 6 0 23 0 0");
        x.show(0, 0);
        x.image();
        return x;
    }

    private static WhichOneAllKnow reads(WhichOneAllKnow x, String text, int items) {
        State.text(x, 1, text);
        CHECKS.due("church '" + text + "'", x.church(1), items);
        CHECKS.due("fault() of '" + text + "'", x.fault(), NONE);
        return x;
    }

    private static void faults(WhichOneAllKnow x, String text, int fault) {
        State.text(x, 1, text);
        String before = State.ofChurch(x);
        CHECKS.due("church '" + text + "'", x.church(1), -6);
        CHECKS.due("fault() of '" + text + "'", x.fault(), fault);
        CHECKS.due("status(16) of '" + text + "'", x.status(16), 1);
        CHECKS.same("'" + text + "'", State.ofChurch(x), before);
    }

    /** Texts, read in the small CHURCH, each with its FAULT. */
    private static void faults(Object... textsAndFaults) {
        for (int i = 0; i < textsAndFaults.length; i += 2) {
            faults(small(), (String) textsAndFaults[i], (Integer) textsAndFaults[i + 1]);
        }
    }

    private static void items() {
        CHECKS.test(16, "ITEM, then any number of times ; and ITEM", "one alone", () -> {
            CHECKS.due("highOf(0)", reads(new WhichOneAllKnow(), "tune 11", 1).highOf(0), 11);
            CHECKS.due("status(3)", reads(small(), "wait 0", 1).status(3), 0);
            CHECKS.due("voiceOf(1, 5)", reads(small(), "knows 1 1", 1).voiceOf(1, 5), 2);
            CHECKS.due("voiceOf(1, 2)", reads(small(), "moves 1 0", 1).voiceOf(1, 2), 0);
            CHECKS.due("voiceOf(2, 4)", reads(small(), "voice 6 9 0 5 11", 1).voiceOf(2, 4), 11);
        });
        CHECKS.test(16, "ITEM, then any number of times ; and ITEM", "of each word, one leaning on another", () -> {
            WhichOneAllKnow x = reads(new WhichOneAllKnow(),
                    "tune 11;voice 6 09 00 5 11;tune 0;knows 0 1;moves 00 23;wait 09;voice 1 1 0 1 1", 7);
            int[][] due = {{6, 9, 23, 5, 11, 2}, {1, 1, 0, 1, 1, 0}};
            for (int v = 0; v < 2; v++) {
                for (int what = 0; what < 6; what++) {
                    CHECKS.due("voiceOf(" + v + ", " + what + ")", x.voiceOf(v, what), due[v][what]);
                }
            }
            CHECKS.due("highOf(0)", x.highOf(0), 11);
            CHECKS.due("highOf(1)", x.highOf(1), 0);
            CHECKS.due("status(3)", x.status(3), 9);
        });
        CHECKS.test(16, "ITEM, then any number of times ; and ITEM", "as many as a full ROW of 160 has", () -> {
            String text = "wait 1;".repeat(22) + "wait 8";
            CHECKS.due("elements", text.length(), 160);
            CHECKS.due("status(3)", reads(small(), text, 23).status(3), 8);
            faults(small(), "wait 1;".repeat(22) + "wait x", 159);
            faults(small(), "wait 1;".repeat(22) + "wait1;", 158);
            faults(small(), "wait 1;".repeat(22) + "wait ", 159);
        });
        CHECKS.test(16, "All is told over what there is", "VOICES and TUNES go on by number, the latest word holds",
                () -> {
            WhichOneAllKnow x = reads(small(), "tune 7;voice 0 1 0 1 1;knows 2 2;wait 3;wait 4;moves 0 1;moves 0 2", 7);
            CHECKS.due("status(0)", x.status(0), 3);
            CHECKS.due("status(1)", x.status(1), 3);
            CHECKS.due("voiceOf(2, 5)", x.voiceOf(2, 5), 4);
            CHECKS.due("status(3)", x.status(3), 4);
            CHECKS.due("voiceOf(0, 2)", x.voiceOf(0, 2), 2);
            CHECKS.due("voiceOf(1, 2)", x.voiceOf(1, 2), 23);
            CHECKS.due("status(2)", x.status(2), 0);
            CHECKS.due("status(6)", x.status(6), 1);
            CHECKS.noneRefused(x);
        });
        CHECKS.test(16, "knows V U; moves V P (to a free PLACE); wait N.", "knows of one who KNOWS it leaves it so",
                () -> {
            WhichOneAllKnow x = small();
            x.knows(0, 1, true);
            CHECKS.due("voiceOf(0, 5)", reads(x, "knows 0 1;knows 0 1;knows 0 0", 3).voiceOf(0, 5), 3);
        });
        CHECKS.test(16, "knows V U; moves V P (to a free PLACE); wait N.", "a PLACE left in the same text is free",
                () -> {
            WhichOneAllKnow x = reads(small(), "moves 0 0;moves 1 3;voice 0 0 23 0 0", 3);
            CHECKS.due("voiceOf(1, 2)", x.voiceOf(1, 2), 3);
            CHECKS.due("voiceOf(2, 2)", x.voiceOf(2, 2), 23);
        });
        CHECKS.test(16, "12 at most, each of a KIND", "a text may fill the CHURCH: 6 TUNES, 12 VOICES", () -> {
            WhichOneAllKnow x = reads(new WhichOneAllKnow(), "tune 1;tune 1;tune 1;tune 1;tune 1;tune 1", 6);
            reads(x, "voice 0 0 0 0 0;voice 0 0 1 0 0;voice 0 0 2 0 0;voice 0 0 3 0 0;voice 0 0 4 0 0;voice 0 0 5 0 0",
                    6);
            reads(x,
                    "voice 0 0 6 0 0;voice 0 0 7 0 0;voice 0 0 8 0 0;voice 0 0 9 0 0;voice 0 0 10 0 0;voice 0 0 11 0 0;"
                    + "knows 11 5", 7);
            CHECKS.due("status(0)", x.status(0), 12);
            CHECKS.due("status(1)", x.status(1), 6);
            CHECKS.due("voiceOf(11, 5)", x.voiceOf(11, 5), 32);
        });
    }

    private static void numbers() {
        CHECKS.test(16, "One blank between words and NUMBERS (1 to 2 digits)",
                "one digit and two, the greatest of each", () -> {
            reads(small(), "tune 0;tune 00;tune 11", 3);
            reads(small(), "wait 9;wait 09;wait 00", 3);
            reads(small(), "voice 6 9 22 5 11;voice 06 09 02 05 01", 2);
            reads(small(), "knows 1 1;knows 01 01;moves 01 22", 3);
        });
        CHECKS.test(16, "Numbers of a text may begin with 0.", "each of each word", () -> {
            WhichOneAllKnow x = reads(small(), "voice 03 04 05 02 06;knows 02 01;moves 01 08;wait 07;tune 03", 5);
            int[] due = {3, 4, 5, 2, 6, 2};
            for (int what = 0; what < 6; what++) {
                CHECKS.due("voiceOf(2, " + what + ")", x.voiceOf(2, what), due[what]);
            }
            CHECKS.due("voiceOf(1, 2)", x.voiceOf(1, 2), 8);
            CHECKS.due("status(3)", x.status(3), 7);
            CHECKS.due("highOf(2)", x.highOf(2), 3);
        });
        CHECKS.test(17, "NUMBERS (1 to 2 digits)", "no digit, and a third one", () ->
                faults("tune x", 5, "tune ;", 5, "tune -1", 5, "tune +1", 5, "tune 111", 7, "tune 000", 7, "wait 001",
                        7,
                        "voice 0 0 000 0 0", 12, "knows 000 0", 8, "moves 0 001", 10, "moves 0  1", 8,
                        "tune \u002f", 5, "tune \u003a", 5, "tune 1\u002f", 6, "tune 1\u003a", 6));
        CHECKS.test(17, "One blank between words and NUMBERS", "none, two, another sign, one behind the last", () ->
                faults("tune1", 4, "tune  1", 5, "tune\t1", 4, "tune_1", 4, "tune 1 ", 6, "wait 1 ;wait 1", 6,
                        "voice 0 0 0 0 0 ", 15, "voice 0 0 0  0 0", 12, "voice 0,0", 7, "knows 0;", 7, "knows 0  0", 8,
                        " tune 1", 0, "tune 1; wait 1", 7));
    }

    private static void rows() {
        CHECKS.test(16, "A CHURCH by the ROW in SHELF s: how many ITEMS.",
                "of each SORT, in the first and the last SHELF", () -> {
            for (int sort = 0; sort <= 3; sort++) {
                for (int s : new int[] {0, 7}) {
                    WhichOneAllKnow x = new WhichOneAllKnow();
                    x.row(s, sort, 6);
                    for (int i = 0; i < 6; i++) {
                        x.set(s, i, "wait 8".charAt(i));
                    }
                    CHECKS.due("church(" + s + ") of SORT " + sort, x.church(s), 1);
                    CHECKS.due("status(3)", x.status(3), 8);
                    CHECKS.due("element(" + s + ", 5)", x.element(s, 5), '8');
                }
            }
        });
        CHECKS.test(16, "Elements of a ROW of longs count by their lowest 32 bits",
                "letters and digits with more above", () -> {
            WhichOneAllKnow x = small();
            State.row(x, 1, 4294967296L + 'w', -4294967296L + 'a', 'i', 't', (1L << 40) + ' ', Long.MIN_VALUE + '3');
            CHECKS.due("church(1)", x.church(1), 1);
            CHECKS.due("status(3)", x.status(3), 3);
            x.set(1, 5, (1L << 31) + '3');
            CHECKS.due("church(1) with bit 31", x.church(1), -6);
            CHECKS.due("fault()", x.fault(), 5);
        });
        CHECKS.test(16, "A CHURCH is read from a ROW of letters", "a letter and 256 or 65536 is no letter", () -> {
            WhichOneAllKnow x = small();
            State.row(x, 1, 'w', 'a', 'i', 't' + 256, ' ', '3');
            CHECKS.due("church(1)", x.church(1), -6);
            CHECKS.due("fault()", x.fault(), 3);
            State.row(x, 1, 'w', 'a', 'i', 't', ' ', '3' + 65536);
            CHECKS.due("church(1)", x.church(1), -6);
            CHECKS.due("fault()", x.fault(), 5);
        });
    }

    private static WhichOneAllKnow shelved(String text) {
        WhichOneAllKnow x = small();
        State.text(x, 1, text);
        return x;
    }

    private static void churchRefuses() {
        CHECKS.test(16, "how many ITEMS. -1; -2; -3; -6 a FAULT.", "-1, no such SHELF", () ->
                CHECKS.refusedEach(TextTest::small, -1, "church(_)", (x, s) -> x.church(s), Checks.outside(0, 7)));
        CHECKS.test(16, "a SHELF that holds a VOICE where a ROW is wanted", "-2", () ->
                CHECKS.refused(TextTest::small, -2, "church(0)", x -> x.church(0)));
        CHECKS.test(16, "-3 NOTHING: a SHELF that holds NOTHING.", "-3", () ->
                CHECKS.refused(TextTest::small, -3, "church(1)", x -> x.church(1)));
        CHECKS.test(16, "-6 a FAULT.", "nothing changes but the FAULT and how many there were", () -> {
            WhichOneAllKnow x = shelved("tune 5;voice 0 0 0 0 0;knows 0 0;moves 0 9;wait 5;tune 12");
            String before = State.ofChurch(x);
            CHECKS.due("church(1)", x.church(1), -6);
            CHECKS.same("church(1)", State.ofChurch(x), before);
            CHECKS.due("fault()", x.fault(), 55);
            CHECKS.due("status(16)", x.status(16), 1);
            CHECKS.due("church(1) again", x.church(1), -6);
            CHECKS.due("status(16)", x.status(16), 2);
            for (int number : new int[] {11, 12, 13, 14, 15, 17}) {
                CHECKS.due("status(" + number + ")", x.status(number), 0);
            }
            CHECKS.due("holds(1)", x.holds(1), 100);
            CHECKS.due("restore()", x.restore(), 2);
            CHECKS.same("restore()", State.ofChurch(x), before);
        });
    }

    private static void wordsAndEnds() {
        CHECKS.test(17, ENDS_EARLY, "an empty ROW", () -> {
            faults("", 0);
            faults(new WhichOneAllKnow(), "", 0);
            faults(State.full(), "", 0);
        });
        CHECKS.test(17, ENDS_EARLY, "behind each letter of a word, behind words, blanks and NUMBERS", () -> {
            for (String item : new String[] {"tune 1", "voice 0 0 0 0 0", "knows 0 0", "moves 0 0", "wait 1"}) {
                for (int end = 0; end < item.length(); end++) {
                    faults(small(), item.substring(0, end), end);
                    faults(small(), "wait 1;" + item.substring(0, end), 7 + end);
                }
            }
        });
        CHECKS.test(17, ENDS_EARLY, "a ; behind which nothing comes", () ->
                faults("tune 1;", 7, "wait 1;knows 0 0;", 17));
        CHECKS.test(17, CANT_STAND, "no word begins so", () ->
                faults("x", 0, "Tune 1", 0, ";", 0, ";tune 1", 0, "1", 0, "\0", 0, "tune 1;;tune 1", 7, "tune 1;1", 7,
                        "tune 1;x", 7, "wait 1;Wait 1", 7));
        CHECKS.test(17, CANT_STAND, "each letter of each word in turn is another", () -> {
            for (String item : new String[] {"tune 1", "voice 0 0 0 0 0", "knows 0 0", "moves 0 0", "wait 1"}) {
                for (int at = 0; at < item.indexOf(' '); at++) {
                    String wrong = item.substring(0, at) + "z" + item.substring(at + 1);
                    faults(small(), wrong, at);
                    faults(small(), "wait 1;" + wrong, 7 + at);
                }
            }
            faults("tuna 1", 3, "tunes 1", 4, "move 0 0", 4, "know 0 0", 4, "voices 0", 5, "waits 1", 4, "tune\0", 4);
        });
        CHECKS.test(17, CANT_STAND, "; where a word or a NUMBER goes on, whatever comes behind it", () ->
                faults("tun;x", 3, "wai;wait 1", 3, "wait;wait 1", 4, "wait ;x", 5, "voice 0;x", 7, "voice 0 0 0 0;x",
                        13,
                        "wait 10;x", 5, "wait 1;knows;x", 12));
        CHECKS.test(17, CANT_STAND, "what stands behind an ITEM is neither ; nor the end", () ->
                faults("tune 1,", 6, "tune 1x", 6, "tune 1\0", 6, "wait 1:wait 1", 6, "wait 01wait 1", 7,
                        "knows 0 0 0", 9,
                        "knows 0 00;x", 11));
        CHECKS.test(17, CANT_STAND, "the first of several", () ->
                faults("tune 12;x", 5, "wait 1;tune 12;tune 99", 12, "tunx 99", 3, "knows 9 9", 6,
                        "voice 9 99 99 9 99", 6));
    }

    private static void numbersThatMayNotBe() {
        CHECKS.test(17, FIRST_DIGIT, "tune H: 11 may be, 12 not", () ->
                faults("tune 12", 5, "tune 99", 5, "tune 12;", 5, "tune 123", 5, "tune 12x", 5, "wait 1;tune 20", 12));
        CHECKS.test(17, FIRST_DIGIT, "voice K: 6 may be, 7 not", () ->
                faults("voice 7 0 0 0 0", 6, "voice 07 0 0 0 0", 6, "voice 10 0 0 0 0", 6, "voice 7", 6, "voice 7x",
                        6));
        CHECKS.test(17, FIRST_DIGIT, "voice A: 9 may be, 10 not", () ->
                faults("voice 0 10 0 0 0", 8, "voice 0 99 0 0 0", 8, "voice 0 10", 8));
        CHECKS.test(17, FIRST_DIGIT, "voice P: 23 may be, 24 not", () -> {
            faults("voice 0 0 24 0 0", 10, "voice 0 0 99 0 0", 10, "voice 0 0 24", 10);
            reads(new WhichOneAllKnow(), "voice 0 0 23 0 0", 1);
        });
        CHECKS.test(17, FIRST_DIGIT, "voice B: 5 may be, 6 not", () ->
                faults("voice 0 0 0 6 0", 12, "voice 0 0 0 10 0", 12, "voice 0 0 0 6", 12));
        CHECKS.test(17, FIRST_DIGIT, "voice T: 11 may be, 12 not", () ->
                faults("voice 0 0 0 0 12", 14, "voice 0 0 0 0 99;", 14));
        CHECKS.test(17, FIRST_DIGIT, "knows V: one who is there, even if just told", () -> {
            faults("knows 2 0", 6, "knows 99 0", 6, "knows 2", 6, "knows 12 0", 6);
            reads(small(), "voice 0 0 0 0 0;knows 2 0", 2);
            faults(small(), "voice 0 0 0 0 0;knows 3 0", 22);
            faults(new WhichOneAllKnow(), "knows 0 0", 6);
            faults(State.full(), "knows 12 0", 6);
        });
        CHECKS.test(17, FIRST_DIGIT, "knows U: one that is there, even if just told", () -> {
            faults("knows 0 2", 8, "knows 1 99", 8, "knows 1 2;", 8);
            reads(small(), "tune 0;knows 1 2", 2);
            faults(small(), "tune 0;knows 1 3", 15);
            faults(State.read("voice 0 0 0 0 0"), "knows 0 0", 8);
            faults(State.full(), "knows 11 6", 9);
        });
        CHECKS.test(17, FIRST_DIGIT, "moves V, moves P: 23 may be, 24 not", () -> {
            faults("moves 2 0", 6, "moves 99 0", 6, "moves 0 24", 8, "moves 0 99", 8);
            faults(new WhichOneAllKnow(), "moves 0 0", 6);
            faults(State.full(), "moves 12 1", 6);
            reads(State.full(), "moves 11 23", 1);
        });
        CHECKS.test(17, FIRST_DIGIT, "wait N: 9 may be, 10 not", () ->
                faults("wait 10", 5, "wait 99", 5, "wait 10;wait 1", 5, "wait 100", 5));
    }

    private static void placesTaken() {
        CHECKS.test(17, "a PLACE that is taken: P", "by one who was there, by one told just now", () ->
                faults("voice 0 0 3 0 0", 10, "voice 0 0 03 0 0", 10, "voice 0 0 23 0 0", 10, "voice 0 0 3", 10,
                        "voice 0 00 3 0 0", 11, "voice 0 0 3 9 99", 10,
                        "voice 0 0 0 0 0;voice 0 0 0 0 0", 26, "moves 0 0;voice 0 0 0 0 0", 20));
        CHECKS.test(17, "moves V P (to a free PLACE)", "taken by another, by himself, by one told just now", () ->
                faults("moves 0 23", 8, "moves 1 3", 8, "moves 0 3", 8, "moves 01 23", 9, "moves 0 5;moves 1 5", 18,
                        "voice 0 0 0 0 0;moves 0 0", 24));
    }

    private static void room() {
        CHECKS.test(17, NO_ROOM, "a seventh TUNE, a thirteenth VOICE: the place of the word", () -> {
            faults(State.full(), "tune 1", 0);
            faults(State.full(), "voice 0 0 1 0 0", 0);
            faults(State.full(), "wait 1;tune 1", 7);
            faults(State.full(), "moves 0 1;voice 0 0 0 0 0", 10);
            faults(State.full(), "tune", 0);
            faults(State.full(), "voice", 0);
            faults(State.full(), "tunex", 0);
            faults(State.full(), "voice 9", 0);
            faults(State.full(), "tune 99", 0);
        });
        CHECKS.test(17, NO_ROOM, "filled by the text itself", () -> {
            faults(new WhichOneAllKnow(), "tune 1;tune 1;tune 1;tune 1;tune 1;tune 1;tune 1", 42);
            WhichOneAllKnow x = State.read("voice 0 0 23 0 0;voice 0 0 22 0 0;voice 0 0 21 0 0;voice 0 0 20 0 0;"
                    + "voice 0 0 19 0 0;voice 0 0 18 0 0;voice 0 0 17 0 0;voice 0 0 16 0 0;voice 0 0 15 0 0;voice 0 0 14 0 0");
            faults(x, "voice 0 0 0 0 0;voice 0 0 1 0 0;voice 0 0 2 0 0", 32);
            reads(x, "voice 0 0 0 0 0;voice 0 0 1 0 0", 2);
        });
        CHECKS.test(17, NO_ROOM, "there is room for all else", () -> {
            reads(State.full(), "moves 0 1;moves 1 0;moves 0 2;wait 1;knows 11 5", 5);
            WhichOneAllKnow x = State.read("tune 0;tune 0;tune 0;tune 0;tune 0;tune 0");
            CHECKS.due("status(0)", reads(x, "voice 0 0 0 0 0", 1).status(0), 1);
            faults(x, "tune 0", 0);
        });
        CHECKS.test(17, LETTERS_STAND, "until then the first letter that is not as it is, or the number of elements",
                () -> {
            faults(State.full(), "tun", 3);
            faults(State.full(), "t", 1);
            faults(State.full(), "tunx", 3);
            faults(State.full(), "txne 1", 1);
            faults(State.full(), "voic", 4);
            faults(State.full(), "voicx", 4);
            faults(State.full(), "vxice 0 0 1 0 0", 1);
            faults(State.full(), "wait 1;tun", 10);
            faults(State.full(), "wait 1;voicy", 11);
        });
    }

    private static void allOrNothing() {
        CHECKS.test(16, "All is told over what there is, or nothing", "each word is told ahead of a FAULT at the end",
                () -> {
            for (String item : new String[] {"tune 1", "voice 0 0 0 0 0", "knows 0 0", "moves 0 0", "wait 1"}) {
                faults(small(), item + ";x", item.length() + 1);
                faults(small(), item + ";", item.length() + 1);
                faults(small(), item + ",", item.length());
                // what the faulty text had told isn't there for the next one either
                WhichOneAllKnow x = small();
                faults(x, item + ";x", item.length() + 1);
                reads(x, "wait 2", 1);
                CHECKS.same("a FAULT and wait 2", State.ofChurch(x), State.ofChurch(small()));
            }
        });
        CHECKS.test(16, "All is told over what there is, or nothing", "a FAULT in a ROW of 160", () -> {
            WhichOneAllKnow x = small();
            faults(x, "tune 1;knows 0 0;moves 1 0;" + "wait 3;".repeat(18) + "wait 10", 158);
        });
    }

    private static void latestFault() {
        CHECKS.test(17, "NONE: there was none, or none yet.", "none yet, nothing is refused", () -> {
            WhichOneAllKnow x = new WhichOneAllKnow();
            CHECKS.due("fault()", x.fault(), NONE);
            CHECKS.noneRefused(x);
        });
        CHECKS.test(17, "NONE: there was none, or none yet.", "none by a text that can stand, behind one that can't",
                () -> {
            WhichOneAllKnow x = shelved("wait x");
            x.church(1);
            CHECKS.due("fault()", x.fault(), 5);
            CHECKS.due("fault() again", x.fault(), 5);
            x.set(1, 5, '1');
            CHECKS.due("church(1)", x.church(1), 1);
            CHECKS.due("fault()", x.fault(), NONE);
        });
        CHECKS.test(17, "The FAULT of the latest church() that came to a ROW", "not of one that didn't", () -> {
            WhichOneAllKnow x = shelved("wait x");
            x.church(8);
            CHECKS.due("fault() ahead of any", x.fault(), NONE);
            x.church(1);
            CHECKS.due("church(8)", x.church(8), -1);
            CHECKS.due("church(0)", x.church(0), -2);
            CHECKS.due("church(2)", x.church(2), -3);
            CHECKS.due("fault()", x.fault(), 5);
            x.row(1, 0, 0);
            CHECKS.due("fault() once the ROW is gone", x.fault(), 5);
            x.church(1);
            CHECKS.due("fault() of the empty ROW", x.fault(), 0);
        });
    }
}

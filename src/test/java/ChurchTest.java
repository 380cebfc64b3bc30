/** Promises 9 to 17: the CHURCH, told call by call or by a text. */
public final class ChurchTest {
    private static final int NONE = WhichOneAllKnow.NONE;
    private static final Checks CHECKS = new Checks();

    public static void main(String[] args) {
        CHECKS.test("promise 9: tune", ChurchTest::tune);
        CHECKS.test("promise 9: tune refuses", ChurchTest::tuneRefuses);
        CHECKS.test("promise 10: voice", ChurchTest::voice);
        CHECKS.test("promise 10: voice refuses", ChurchTest::voiceRefuses);
        CHECKS.test("promise 11: knows", ChurchTest::knows);
        CHECKS.test("promise 12: move", ChurchTest::move);
        CHECKS.test("promise 13: ask", ChurchTest::ask);
        CHECKS.test("promise 14: voiceOf", ChurchTest::voiceOf);
        CHECKS.test("promise 15: highOf", ChurchTest::highOf);
        CHECKS.test("promise 16: church tells all the ITEMS", ChurchTest::church);
        CHECKS.test("promise 16: church refuses", ChurchTest::churchRefuses);
        CHECKS.test("promise 16: church has no room", ChurchTest::churchRoom);
        CHECKS.test("promise 17: fault", ChurchTest::fault);
        CHECKS.test("promise 17: fault is of the latest church", ChurchTest::latestFault);
        CHECKS.close();
    }

    /** Two TUNES, VOICE 0 at PLACE 3, VOICE 1 at PLACE 23; SHELF 0 shows VOICE 0. */
    private static WhichOneAllKnow small() {
        WhichOneAllKnow x = new WhichOneAllKnow();
        x.tune(4);
        x.tune(11);
        x.voice(2, 9, 3, 5, 11);
        x.voice(6, 0, 23, 0, 0);
        x.show(0, 0);
        return x;
    }

    private static WhichOneAllKnow full() {
        WhichOneAllKnow x = new WhichOneAllKnow();
        for (int i = 0; i < 6; i++) {
            x.tune(i);
        }
        for (int i = 0; i < 12; i++) {
            x.voice(i % 7, i % 10, 2 * i, i % 6, i);
        }
        return x;
    }

    private static void tune() {
        WhichOneAllKnow x = new WhichOneAllKnow();
        for (int i = 0; i < 6; i++) {
            CHECKS.due("tune", x.tune(i == 5 ? 11 : i), i);
            CHECKS.due("status(1)", x.status(1), i + 1);
        }
        CHECKS.due("highOf(5)", x.highOf(5), 11);
        CHECKS.due("highOf(0)", x.highOf(0), 0);
    }

    private static void tuneRefuses() {
        CHECKS.refused(ChurchTest::full, -6, "tune(12)", x -> x.tune(12));
        CHECKS.refused(ChurchTest::full, -6, "tune(-1)", x -> x.tune(-1));
        CHECKS.refused(ChurchTest::full, -7, "tune(11)", x -> x.tune(11));
        CHECKS.refused(ChurchTest::small, -6, "tune(12) with room", x -> x.tune(12));
    }

    private static void voice() {
        WhichOneAllKnow x = full();
        CHECKS.due("status(0)", x.status(0), 12);
        CHECKS.due("status(5)", x.status(5), 12);
        for (int v = 0; v < 12; v++) {
            int[] due = {v % 7, v % 10, 2 * v, v % 6, v, 0};
            for (int what = 0; what < due.length; what++) {
                CHECKS.due("voiceOf(" + v + ", " + what + ")", x.voiceOf(v, what), due[what]);
            }
        }
        CHECKS.due("voice at the ends", small().voice(6, 9, 0, 5, 11), 2);
        CHECKS.due("voice at the other ends", small().voice(0, 0, 22, 0, 0), 2);
    }

    private static void voiceRefuses() {
        CHECKS.refused(ChurchTest::full, -1, "KIND 7", x -> x.voice(7, 99, 99, 99, 99));
        CHECKS.refused(ChurchTest::full, -1, "KIND -1", x -> x.voice(-1, 0, 1, 0, 0));
        CHECKS.refused(ChurchTest::full, -6, "a 10, no room", x -> x.voice(0, 10, 1, 0, 0));
        CHECKS.refused(ChurchTest::small, -6, "a 10", x -> x.voice(0, 10, 1, 0, 0));
        CHECKS.refused(ChurchTest::small, -6, "a -1", x -> x.voice(0, -1, 1, 0, 0));
        CHECKS.refused(ChurchTest::small, -6, "PLACE 24", x -> x.voice(0, 0, 24, 0, 0));
        CHECKS.refused(ChurchTest::small, -6, "PLACE -1", x -> x.voice(0, 0, -1, 0, 0));
        CHECKS.refused(ChurchTest::small, -6, "PLACE taken", x -> x.voice(0, 0, 23, 0, 0));
        CHECKS.refused(ChurchTest::small, -6, "BOLD 6", x -> x.voice(0, 0, 1, 6, 0));
        CHECKS.refused(ChurchTest::small, -6, "BOLD -1", x -> x.voice(0, 0, 1, -1, 0));
        CHECKS.refused(ChurchTest::small, -6, "TOP 12", x -> x.voice(0, 0, 1, 0, 12));
        CHECKS.refused(ChurchTest::small, -6, "TOP -1", x -> x.voice(0, 0, 1, 0, -1));
        CHECKS.refused(ChurchTest::full, -7, "no room", x -> x.voice(0, 0, 1, 0, 0));
    }

    private static void knows() {
        WhichOneAllKnow x = small();
        CHECKS.due("knows(0, 1, true)", x.knows(0, 1, true), 0);
        CHECKS.due("knows(0, 1, true)", x.knows(0, 1, true), 1);
        CHECKS.due("voiceOf(0, 5)", x.voiceOf(0, 5), 2);
        CHECKS.due("knows(0, 0, true)", x.knows(0, 0, true), 0);
        CHECKS.due("voiceOf(0, 5)", x.voiceOf(0, 5), 3);
        CHECKS.due("voiceOf(1, 5)", x.voiceOf(1, 5), 0);
        CHECKS.due("knows(0, 1, false)", x.knows(0, 1, false), 1);
        CHECKS.due("knows(0, 1, false)", x.knows(0, 1, false), 0);
        CHECKS.due("voiceOf(0, 5)", x.voiceOf(0, 5), 1);
        CHECKS.refused(ChurchTest::small, -1, "knows(2, 0)", y -> y.knows(2, 0, true));
        CHECKS.refused(ChurchTest::small, -1, "knows(-1, 0)", y -> y.knows(-1, 0, true));
        CHECKS.refused(ChurchTest::small, -1, "knows(0, 2)", y -> y.knows(0, 2, true));
        CHECKS.refused(ChurchTest::small, -1, "knows(0, -1)", y -> y.knows(0, -1, false));
    }

    private static void move() {
        WhichOneAllKnow x = small();
        CHECKS.due("move(0, 0)", x.move(0, 0), 3);
        CHECKS.due("voiceOf(0, 2)", x.voiceOf(0, 2), 0);
        CHECKS.due("move(1, 3)", x.move(1, 3), 23);
        CHECKS.due("move(0, 23)", x.move(0, 23), 0);
        CHECKS.refused(ChurchTest::small, -1, "move(2, 99)", y -> y.move(2, 99));
        CHECKS.refused(ChurchTest::small, -1, "move(-1, 0)", y -> y.move(-1, 0));
        CHECKS.refused(ChurchTest::small, -6, "move(0, 24)", y -> y.move(0, 24));
        CHECKS.refused(ChurchTest::small, -6, "move(0, -1)", y -> y.move(0, -1));
        CHECKS.refused(ChurchTest::small, -6, "move(0, 23)", y -> y.move(0, 23));
        CHECKS.refused(ChurchTest::small, -6, "move to his own", y -> y.move(0, 3));
    }

    private static void ask() {
        WhichOneAllKnow x = small();
        CHECKS.due("ask(9)", x.ask(9), 2);
        CHECKS.due("ask(0)", x.ask(0), 9);
        CHECKS.due("status(3)", x.status(3), 0);
        CHECKS.refused(ChurchTest::small, -6, "ask(10)", y -> y.ask(10));
        CHECKS.refused(ChurchTest::small, -6, "ask(-1)", y -> y.ask(-1));
    }

    private static void voiceOf() {
        WhichOneAllKnow x = small();
        int[] due = {2, 9, 3, 5, 11, 0};
        for (int what = 0; what < due.length; what++) {
            CHECKS.due("voiceOf(0, " + what + ")", x.voiceOf(0, what), due[what]);
        }
        CHECKS.refused(ChurchTest::small, -5, "voiceOf(2, 0)", y -> y.voiceOf(2, 0));
        CHECKS.refused(ChurchTest::small, -5, "voiceOf(-1, 0)", y -> y.voiceOf(-1, 0));
        CHECKS.refused(ChurchTest::small, -5, "voiceOf(0, 6)", y -> y.voiceOf(0, 6));
        CHECKS.refused(ChurchTest::small, -5, "voiceOf(0, -1)", y -> y.voiceOf(0, -1));
        CHECKS.refused(ChurchTest::small, -5, "voiceOf(2, 6)", y -> y.voiceOf(2, 6));
    }

    private static void highOf() {
        CHECKS.due("highOf(0)", small().highOf(0), 4);
        CHECKS.due("highOf(1)", small().highOf(1), 11);
        CHECKS.refused(ChurchTest::small, -5, "highOf(2)", x -> x.highOf(2));
        CHECKS.refused(ChurchTest::small, -5, "highOf(-1)", x -> x.highOf(-1));
    }

    private static void church() {
        WhichOneAllKnow x = new WhichOneAllKnow();
        State.text(x, 0, "tune 11;voice 6 09 00 5 11;tune 0;knows 0 1;moves 00 23;wait 09;voice 1 1 0 1 1");
        CHECKS.due("church(0)", x.church(0), 7);
        CHECKS.due("fault()", x.fault(), NONE);
        int[] first = {6, 9, 23, 5, 11, 2};
        int[] second = {1, 1, 0, 1, 1, 0};
        for (int what = 0; what < 6; what++) {
            CHECKS.due("voiceOf(0, " + what + ")", x.voiceOf(0, what), first[what]);
            CHECKS.due("voiceOf(1, " + what + ")", x.voiceOf(1, what), second[what]);
        }
        CHECKS.due("highOf(0)", x.highOf(0), 11);
        CHECKS.due("highOf(1)", x.highOf(1), 0);
        CHECKS.due("status(3)", x.status(3), 9);
        State.text(x, 0, "knows 1 0");
        CHECKS.due("church over what there is", x.church(0), 1);
        CHECKS.due("voiceOf(1, 5)", x.voiceOf(1, 5), 1);
        CHECKS.due("status(2)", x.status(2), 0);
        State.row(x, 1, 4294967296L + 'w', 'a', 'i', 't', ' ', '3');
        CHECKS.due("church by the lowest 32 bits of longs", x.church(1), 1);
        CHECKS.due("status(3)", x.status(3), 3);
    }

    private static WhichOneAllKnow shelved(String text) {
        WhichOneAllKnow x = small();
        State.text(x, 1, text);
        return x;
    }

    private static void churchRefuses() {
        CHECKS.refused(ChurchTest::small, -1, "church(8)", x -> x.church(8));
        CHECKS.refused(ChurchTest::small, -1, "church(-1)", x -> x.church(-1));
        CHECKS.refused(ChurchTest::small, -2, "church(0)", x -> x.church(0));
        CHECKS.refused(ChurchTest::small, -3, "church(1)", x -> x.church(1));
        WhichOneAllKnow x = shelved("tune 5;voice 0 0 0 0 0;knows 0 0;moves 0 9;wait 5;tune 12");
        CHECKS.due("church with a FAULT at its end", x.church(1), -6);
        CHECKS.due("status(16)", x.status(16), 1);
        CHECKS.due("status(0)", x.status(0), 2);
        CHECKS.due("status(1)", x.status(1), 2);
        CHECKS.due("status(3)", x.status(3), 2);
        CHECKS.due("voiceOf(0, 5)", x.voiceOf(0, 5), 0);
        CHECKS.due("voiceOf(0, 2)", x.voiceOf(0, 2), 3);
    }

    private static void churchRoom() {
        String[] texts = {"tune 1", "tune", "tun", "tunx", "voice 0", "voice", "voic", "wait 1;tune x", "wait 1;voicy"};
        int[] faults = {0, 0, 3, 3, 0, 0, 4, 7, 11};
        for (int i = 0; i < texts.length; i++) {
            WhichOneAllKnow x = full();
            State.text(x, 0, texts[i]);
            CHECKS.due("church '" + texts[i] + "'", x.church(0), -6);
            CHECKS.due("fault '" + texts[i] + "'", x.fault(), faults[i]);
        }
        WhichOneAllKnow x = full();
        State.text(x, 0, "moves 0 1;moves 1 0;moves 0 2;wait 1");
        CHECKS.due("church without new ones", x.church(0), 4);
        WhichOneAllKnow y = new WhichOneAllKnow();
        State.text(y, 0, "tune 1;tune 1;tune 1;tune 1;tune 1;tune 1;tune 1");
        CHECKS.due("church of seven TUNES", y.church(0), -6);
        CHECKS.due("fault", y.fault(), 42);
        CHECKS.due("status(1)", y.status(1), 0);
    }

    private static void fault() {
        // VOICE 0 is at PLACE 3, VOICE 1 at PLACE 23; two TUNES
        String[] texts = {
            "", "x", "Tune 1", "tun", "tuna 1", "tune", "tune ", "tune  1", "tune x", "tune 12", "tune 1;",
            "tune 1 ", "tune 1,", "tune 111", "tune 123", "tune 011", "tune -1", "tune 1;;", "tune 1; wait 1",
            "voice 7 0 0 0 0", "voice 07 0 0 0 0", "voice 0 10 0 0 0", "voice 0 0 24 0 0", "voice 0 0 3 0 0",
            "voice 0 0 03 0 0", "voice 0 0 0 6 0", "voice 0 0 0 0 12", "voice 0 0 0 0", "voice 0 0 3", "voice 0 0 ",
            "voice 0 0 0 0 0;voice 0 0 0 0 0", "knows 2 0", "knows 0 2", "knows 0 2 ", "knows 0", "knows 9",
            "voice 0 0 0 0 0;knows 2 2", "tune 0;knows 1 3", "moves 2 0", "moves 0 24", "moves 0 23", "moves 0 3",
            "moves 0 5;moves 1 5", "wait 10", "wait 001", "wait 1\0", "wai", "wait 1;m", "wait 1;n",
        };
        int[] faults = {
            0, 0, 0, 3, 3, 4, 5, 5, 5, 5, 7,
            6, 6, 7, 5, 7, 5, 7, 7,
            6, 6, 8, 10, 10,
            10, 12, 14, 13, 10, 10,
            26, 6, 8, 8, 7, 6,
            24, 15, 6, 8, 8, 8,
            18, 5, 7, 6, 3, 8, 7,
        };
        for (int i = 0; i < texts.length; i++) {
            WhichOneAllKnow x = shelved(texts[i]);
            CHECKS.due("church '" + texts[i] + "'", x.church(1), -6);
            CHECKS.due("fault '" + texts[i] + "'", x.fault(), faults[i]);
        }
    }

    private static void latestFault() {
        WhichOneAllKnow x = shelved("wait x");
        CHECKS.due("fault() of none yet", x.fault(), NONE);
        x.church(1);
        CHECKS.due("fault()", x.fault(), 5);
        x.church(8);
        x.church(0);
        x.church(2);
        CHECKS.due("fault() after calls that came to no ROW", x.fault(), 5);
        x.set(1, 5, '1');
        CHECKS.due("church(1)", x.church(1), 1);
        CHECKS.due("fault() of a good text", x.fault(), NONE);
    }
}

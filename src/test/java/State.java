/** What can be seen of a church without changing it, in some 200 calls, and how to fill its shelves. */
final class State {
    private static final int ELEMENTS_SEEN = 8;

    private State() {
    }

    static String of(WhichOneAllKnow x) {
        StringBuilder told = new StringBuilder(ofChurch(x)).append(" bodies ").append(x.status(7)).append(" trace");
        for (int i = 0; x.trace(i) != WhichOneAllKnow.NONE; i++) {
            told.append(' ').append(x.trace(i));
        }
        told.append(" fault ").append(x.fault()).append(" shelves");
        for (int s = 0; s < 8; s++) {
            told.append(' ').append(x.holds(s)).append('[');
            for (int i = 0; i < ELEMENTS_SEEN; i++) {
                told.append(x.element(s, i)).append(i < ELEMENTS_SEEN - 1 ? "," : "]");
            }
        }
        return told.toString();
    }

    /** What THE IMAGE has: VOICES, TUNES, and numbers. */
    static String ofChurch(WhichOneAllKnow x) {
        StringBuilder told = new StringBuilder("voices");
        int voices = x.status(0);
        for (int v = 0; v < voices; v++) {
            told.append(" (");
            for (int what = 0; what <= 5; what++) {
                told.append(x.voiceOf(v, what)).append(what < 5 ? " " : ")");
            }
        }
        told.append(" tunes");
        int tunes = x.status(1);
        for (int t = 0; t < tunes; t++) {
            told.append(' ').append(x.highOf(t));
        }
        told.append(" status");
        for (int what = 0; what <= 6; what++) {
            told.append(' ').append(x.status(what));
        }
        return told.toString();
    }

    static void row(WhichOneAllKnow x, int s, long... elements) {
        x.row(s, 3, elements.length);
        for (int i = 0; i < elements.length; i++) {
            x.set(s, i, elements[i]);
        }
    }

    static void text(WhichOneAllKnow x, int s, String letters) {
        x.row(s, 0, letters.length());
        for (int i = 0; i < letters.length(); i++) {
            x.set(s, i, letters.charAt(i));
        }
    }

    /** A church by the ITEMS of a text of any length, told call by call. */
    static WhichOneAllKnow read(String letters) {
        WhichOneAllKnow x = new WhichOneAllKnow();
        for (String item : letters.split(";")) {
            String[] words = item.split(" ");
            int[] n = new int[words.length - 1];
            for (int i = 0; i < n.length; i++) {
                n[i] = Integer.parseInt(words[i + 1]);
            }
            if (tell(x, words[0], n) < 0) {
                throw new IllegalArgumentException("can't tell " + item);
            }
        }
        return x;
    }

    private static int tell(WhichOneAllKnow x, String word, int[] n) {
        switch (word) {
            case "tune": return x.tune(n[0]);
            case "voice": return x.voice(n[0], n[1], n[2], n[3], n[4]);
            case "knows": return x.knows(n[0], n[1], true);
            case "moves": return x.move(n[0], n[1]);
            case "wait": return x.ask(n[0]);
            default: throw new IllegalArgumentException(word);
        }
    }

    /** Six TUNES (HIGH 0 to 5) and twelve VOICES of all KINDS, at PLACES 0, 2, .. 22. */
    static WhichOneAllKnow full() {
        WhichOneAllKnow x = new WhichOneAllKnow();
        for (int i = 0; i < 6; i++) {
            x.tune(i);
        }
        for (int i = 0; i < 12; i++) {
            x.voice(i % 7, i % 10, 2 * i, i % 6, i);
        }
        return x;
    }
}

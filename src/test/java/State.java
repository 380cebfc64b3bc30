/** What can be seen of a church without changing it, in some 200 calls, and how to fill its shelves. */
final class State {
    private static final int ELEMENTS_SEEN = 8;

    private State() {
    }

    static String of(WhichOneAllKnow x) {
        StringBuilder told = new StringBuilder("voices");
        for (int v = 0; v < x.status(0); v++) {
            told.append(" (");
            for (int what = 0; what <= 5; what++) {
                told.append(x.voiceOf(v, what)).append(what < 5 ? " " : ")");
            }
        }
        told.append(" tunes");
        for (int t = 0; t < x.status(1); t++) {
            told.append(' ').append(x.highOf(t));
        }
        told.append(" status");
        for (int what = 0; what <= 7; what++) {
            told.append(' ').append(x.status(what));
        }
        told.append(" trace");
        for (int i = 0; x.trace(i) != WhichOneAllKnow.NONE; i++) {
            told.append(' ').append(x.trace(i));
        }
        told.append(" fault ").append(x.fault()).append(" shelves");
        for (int s = 0; s < 8; s++) {
            told.append(' ').append(x.holds(s)).append('[');
            for (int i = 0; i < ELEMENTS_SEEN; i++) {
                told.append(x.element(s, i)).append(i < ELEMENTS_SEEN - 1 ? "," : "]");
            }
        }
        return told.toString();
    }

    static void row(WhichOneAllKnow x, int s, long... elements) {
        x.row(s, 3, elements.length);
        for (int i = 0; i < elements.length; i++) {
            x.set(s, i, elements[i]);
        }
    }

    static void text(WhichOneAllKnow x, int s, String letters) {
        x.row(s, 0, letters.length());
        for (int i = 0; i < letters.length(); i++) {
            x.set(s, i, letters.charAt(i));
        }
    }

    /** A church by the ITEMS of a text of any length; SHELF 7 is left with the last ITEM. */
    static WhichOneAllKnow read(String letters) {
        WhichOneAllKnow x = new WhichOneAllKnow();
        for (String item : letters.split(";")) {
            text(x, 7, item);
            if (x.church(7) != 1) {
                throw new IllegalArgumentException("fault " + x.fault() + " in " + item);
            }
        }
        return x;
    }
}

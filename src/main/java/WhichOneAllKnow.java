/** A church of pews and what becomes of its hymns; ../shared/DOC.md says what each call promises. */
public final class WhichOneAllKnow {
    public static final int NONE = -1;

    private static final int NOBODY = -1;
    private static final int OTHER = -2;
    private static final int NOTHING = -3;
    private static final int BELOW = -4;
    private static final int BEYOND = -5;
    private static final int WRONG = -6;
    private static final int ROOM = -7;

    private static final int VOICE = 0;
    private static final int LEADING = 1;
    private static final int JOINING = 2;
    private static final int BOOMER = 3;
    private static final int ASTRAY = 4;
    private static final int MIME = 5;
    private static final int DRAGGER = 6;
    private static final int[] ABOVE = {NONE, VOICE, VOICE, LEADING, VOICE, JOINING, ASTRAY};

    private static final int HIGHEST = 11;
    private static final int BOLDEST = 5;
    private static final int PITCHES = 6;
    private static final int LAST_VERSE = 40;
    private static final int MOST_VERSES = 9;
    private static final int MOST_TOLD = 40;
    private static final int MOST_YEARS = 60;
    private static final int MOST_TAUGHT = 3;

    private final Church now = new Church();
    private final Church kept = new Church();
    private final Church draft = new Church();
    private final Shelves shelves = new Shelves();
    private final Singing singing = new Singing(now);
    private final Text text = new Text(draft);
    private final Moves moves = new Moves();
    private final int[] refusals = new int[8];
    private boolean hasImage = false;
    private int latestFault = NONE;

    public WhichOneAllKnow() {
    }

    // ---- shelves ----

    public int row(int s, int sort, int n) {
        if (!shelves.has(s)) {
            return refuse(NOBODY);
        }
        if (n < 0) {
            return refuse(BELOW);
        }
        if (!within(sort, 0, Shelves.SORTS - 1)) {
            return refuse(WRONG);
        }
        if (n > Shelves.LONGEST) {
            return refuse(ROOM);
        }
        shelves.holdRow(s, sort, n);
        return 1;
    }

    public int set(int s, int i, long v) {
        int no = noRow(s);
        if (no == 0 && !shelves.hasElement(s, i)) {
            no = BEYOND;
        }
        if (no != 0) {
            return refuse(no);
        }
        shelves.put(s, i, v);
        return 1;
    }

    public int copy(int p, int q, int i, int j, int n) {
        int no = noPairOfRows(p, q);
        if (no == 0 && n < 0) {
            no = BELOW;
        }
        if (no == 0 && !(shelves.hasPart(p, i, n) && shelves.hasPart(q, j, n))) {
            no = BEYOND;
        }
        if (no != 0) {
            return refuse(no);
        }
        System.arraycopy(shelves.rows[p], i, shelves.rows[q], j, n);
        return 1;
    }

    public long element(int s, int i) {
        return shelves.hasElement(s, i) ? shelves.rows[s][i] : 0;
    }

    public int show(int s, int voice) {
        if (!shelves.has(s) || voice != NONE && !now.hasVoice(voice)) {
            return refuse(NOBODY);
        }
        shelves.held[s] = voice;
        return voice == NONE ? 0 : 1;
    }

    public int holds(int s) {
        return shelves.has(s) ? shelves.held[s] : NONE;
    }

    public int says(int s, int kind) {
        if (!shelves.has(s) || !isKind(kind)) {
            return refuse(NOBODY);
        }
        int voice = shelves.held[s];
        if (voice == NONE) {
            return refuse(NOTHING);
        }
        if (!now.hasVoice(voice) || !isOrIsUnder(now.kind[voice], kind)) {
            return refuse(OTHER);
        }
        switch (kind) {
            case LEADING:
            case BOOMER:
                return now.top[voice];
            case JOINING:
            case MIME:
                return now.a[voice];
            case ASTRAY:
            case DRAGGER:
                return Integer.bitCount(now.knows[voice]);
            default:
                return now.place[voice];
        }
    }

    // ---- the church ----

    public int tune(int high) {
        if (!within(high, 0, HIGHEST)) {
            return refuse(WRONG);
        }
        return now.hasRoomForTune() ? now.addTune(high) : refuse(ROOM);
    }

    public int voice(int kind, int a, int place, int bold, int top) {
        if (!isKind(kind)) {
            return refuse(NOBODY);
        }
        if (!within(a, 0, Church.MOST_A) || !now.isFree(place)
                || !within(bold, 0, BOLDEST) || !within(top, 0, HIGHEST)) {
            return refuse(WRONG);
        }
        return now.hasRoomForVoice() ? now.addVoice(kind, a, place, bold, top) : refuse(ROOM);
    }

    public int knows(int voice, int tune, boolean is) {
        if (!now.hasVoice(voice) || !now.hasTune(tune)) {
            return refuse(NOBODY);
        }
        boolean did = now.knowsIt(voice, tune);
        now.learn(voice, tune, is);
        return did ? 1 : 0;
    }

    public int move(int voice, int place) {
        if (!now.hasVoice(voice)) {
            return refuse(NOBODY);
        }
        if (!now.isFree(place)) {
            return refuse(WRONG);
        }
        int was = now.place[voice];
        now.place[voice] = place;
        return was;
    }

    public int ask(int v) {
        if (!within(v, 0, Church.MOST_WAIT)) {
            return refuse(WRONG);
        }
        int was = now.wait;
        now.wait = v;
        return was;
    }

    public int voiceOf(int voice, int what) {
        if (!now.hasVoice(voice)) {
            return refuse(BEYOND);
        }
        switch (what) {
            case 0:
                return now.kind[voice];
            case 1:
                return now.a[voice];
            case 2:
                return now.place[voice];
            case 3:
                return now.bold[voice];
            case 4:
                return now.top[voice];
            case 5:
                return now.knows[voice];
            default:
                return refuse(BEYOND);
        }
    }

    public int highOf(int tune) {
        return now.hasTune(tune) ? now.high[tune] : refuse(BEYOND);
    }

    public int church(int s) {
        int no = noRow(s);
        if (no != 0) {
            return refuse(no);
        }
        draft.become(now);
        int items = text.readItems(shelves.rows[s], shelves.sizes[s]);
        latestFault = text.fault;
        if (latestFault != NONE) {
            return refuse(WRONG);
        }
        now.become(draft);
        return items;
    }

    public int fault() {
        return latestFault;
    }

    // ---- a hymn ----

    public int sung(int tune, int pitch, int verse, int what) {
        if (!now.hasTune(tune)) {
            return refuse(NOBODY);
        }
        if (!within(what, 0, 3)) {
            return refuse(BEYOND);
        }
        if (!isPitch(pitch) || !isVerse(verse)) {
            return refuse(WRONG);
        }
        singing.begin(now, tune, pitch);
        singing.singTo(verse);
        switch (what) {
            case 0:
                return now.voicesIn(singing.right);
            case 1:
                return now.voicesIn(singing.wrong);
            case 2:
                return now.voicesIn(singing.miming);
            default:
                return now.voicesIn(singing.placesNear(singing.right));
        }
    }

    public int needs(int voice, int tune) {
        if (!now.hasVoice(voice) || !now.hasTune(tune)) {
            return refuse(NOBODY);
        }
        return now.needOf(voice, tune);
    }

    public int verse(int tune, int pitch, int what) {
        if (!now.hasTune(tune)) {
            return refuse(NOBODY) - 10;
        }
        if (!within(what, 0, 1)) {
            return refuse(BEYOND) - 10;
        }
        if (!isPitch(pitch)) {
            return refuse(WRONG) - 10;
        }
        singing.begin(now, tune, pitch);
        return what == 0 ? singing.catchesAt() : singing.settlesAt();
    }

    // ---- what comes of it ----

    public int best(int pitch, int verse) {
        if (now.tunes == 0) {
            return refuse(BEYOND);
        }
        if (!isPitch(pitch) || !isVerse(verse)) {
            return refuse(WRONG);
        }
        int best = NONE;
        int most = NONE;
        for (int tune = 0; tune < now.tunes; tune++) {
            int count = Integer.bitCount(rightAt(now, tune, pitch, verse));
            if (count > most) {
                most = count;
                best = tune;
            }
        }
        return best;
    }

    public int pitch(int tune, int verse) {
        if (!now.hasTune(tune)) {
            return refuse(NOBODY);
        }
        if (!isVerse(verse)) {
            return refuse(WRONG);
        }
        int best = NONE;
        int most = NONE;
        for (int pitch = 0; pitch < PITCHES; pitch++) {
            int count = Integer.bitCount(rightAt(now, tune, pitch, verse));
            if (count >= most) {
                most = count;
                best = pitch;
            }
        }
        return best;
    }

    public int two(int verse) {
        if (!isVerse(verse)) {
            return refuse(WRONG) - 10;
        }
        int best = NONE;
        int most = NONE;
        for (int one = 0; one < now.tunes; one++) {
            int byOne = rightAt(now, one, 0, verse);
            for (int other = one + 1; other < now.tunes; other++) {
                int count = Integer.bitCount(byOne | rightAt(now, other, 0, verse));
                if (count > most) {
                    most = count;
                    best = 10 * one + other;
                }
            }
        }
        return best;
    }

    public int leaders(int tune, int pitch, int verse, int k, int i) {
        if (!now.hasTune(tune)) {
            return refuse(NOBODY);
        }
        boolean mayLead = within(k, 1, Church.MOST_LEADERS);
        if (mayLead && !within(i, NONE, k - 1)) {
            return refuse(BEYOND);
        }
        if (!mayLead || !isPitch(pitch) || !isVerse(verse)) {
            return refuse(WRONG);
        }
        int bestPair = NONE;
        int most = NONE;
        draft.become(now);
        for (int one = 0; one < Church.PLACES; one++) {
            int last = k == 1 ? one : Church.PLACES - 1;
            for (int other = one + k - 1; other <= last; other++) {
                int count = rightLedFrom(one, other, tune, pitch, verse);
                if (count > most) {
                    most = count;
                    bestPair = Church.PLACES * one + other;
                }
            }
        }
        if (i == NONE) {
            return most;
        }
        return i == 0 ? bestPair / Church.PLACES : bestPair % Church.PLACES;
    }

    public int taught(int tune, int pitch) {
        if (!now.hasTune(tune)) {
            return refuse(NOBODY) - 10;
        }
        if (!isPitch(pitch)) {
            return refuse(WRONG) - 10;
        }
        draft.become(now);
        for (int count = 0; count <= MOST_TAUGHT; count++) {
            for (int pupils = 0; pupils < 1 << now.voices; pupils++) {
                if (Integer.bitCount(pupils) == count && catchesIfTaught(pupils, tune, pitch)) {
                    return pupils;
                }
            }
        }
        return NONE;
    }

    public int helps(int voice, int tune, int pitch, int verse) {
        if (!now.hasVoice(voice) || !now.hasTune(tune)) {
            return refuse(NOBODY) - 100;
        }
        if (!isPitch(pitch) || !isVerse(verse)) {
            return refuse(WRONG) - 100;
        }
        int his = 1 << now.place[voice];
        int with = Integer.bitCount(rightAt(now, tune, pitch, verse) & ~his);
        singing.begin(now, tune, pitch);
        singing.leaveOut(voice);
        return with - Integer.bitCount(singing.singTo(verse));
    }

    public int late(int t, int n) {
        if (!within(t, 0, 99) || !within(n, NONE, 9)) {
            return refuse(WRONG);
        }
        return n == NONE ? now.wait * t : lateLedBy(t, n);
    }

    public int ahead(int t, int l) {
        if (!within(t, 0, 99) || !within(l, 0, 99)) {
            return refuse(WRONG) - 10;
        }
        for (int n = 0; n <= 9; n++) {
            if (lateLedBy(t, n) <= l) {
                return n;
            }
        }
        return NONE;
    }

    public int fits(int s, int n, int pitch) {
        int no = noPart(s, n);
        if (no == 0 && !(within(n, 1, MOST_TOLD) && isPitch(pitch))) {
            no = WRONG;
        }
        if (no != 0) {
            return refuse(no);
        }
        int fitting = 0;
        for (int tune = 0; tune < now.tunes; tune++) {
            singing.begin(now, tune, pitch);
            if (singing.isHeardAs(shelves.rows[s], n)) {
                fitting |= 1 << tune;
            }
        }
        return fitting;
    }

    public int changed(int s, int n, int tune, int pitch) {
        int no = now.hasTune(tune) ? noPart(s, n) : NOBODY;
        if (no == 0 && !(within(n, 1, MOST_TOLD) && isPitch(pitch))) {
            no = WRONG;
        }
        if (no != 0) {
            return refuse(no) - 10;
        }
        draft.become(now);
        for (int one = 0; one < now.voices; one++) {
            for (int other = one + 1; other < now.voices; other++) {
                draft.changePlaces(one, other);
                singing.begin(draft, tune, pitch);
                if (singing.isHeardAs(shelves.rows[s], n)) {
                    return 20 * one + other;
                }
                draft.changePlaces(one, other);
            }
        }
        return NONE;
    }

    public int known(int voice, int what) {
        if (what == 0 && !now.hasVoice(voice)) {
            return refuse(NOBODY);
        }
        switch (what) {
            case 0:
                return Integer.bitCount(now.knows[voice]);
            case 1:
                return now.knownTogether();
            case 2:
                return now.knownToAll();
            case 3:
                return now.voices == 0 ? refuse(BEYOND) : now.likestVoice();
            default:
                return refuse(BEYOND);
        }
    }

    // ---- services ----

    public int judge(int s, int n) {
        int no = noPart(s, n);
        if (no == 0 && n > MOST_TOLD) {
            no = WRONG;
        }
        return no == 0 ? firstWrong(s, n) : refuse(no) - 10;
    }

    public int behind(int s, int n, int what) {
        int no = noPart(s, n);
        if (no == 0 && !within(what, 0, 2)) {
            no = BEYOND;
        }
        if (no == 0 && !maySing(s, n)) {
            no = WRONG;
        }
        if (no != 0) {
            return refuse(no);
        }
        draft.become(now);
        int right = 0;
        int caught = 0;
        for (int i = 0; i < n; i++) {
            int count = singTold(draft, shelves.told(s, i));
            right += count;
            caught += 2 * count >= draft.voices ? 1 : 0;
        }
        if (what == 0) {
            return draft.knownTogether();
        }
        return what == 1 ? right : caught;
    }

    public int done(int s, int n) {
        int no = noPart(s, n);
        if (no == 0 && !maySing(s, n)) {
            no = WRONG;
        }
        if (no != 0) {
            return refuse(no);
        }
        for (int i = 0; i < n; i++) {
            singTold(now, shelves.told(s, i));
        }
        return now.hymns;
    }

    public int hymn(int tune, int pitch, int n) {
        if (!now.hasTune(tune)) {
            return refuse(NOBODY);
        }
        if (!isPitch(pitch) || !within(n, 1, MOST_VERSES)) {
            return refuse(WRONG);
        }
        return singInTruth(now, tune, pitch, n);
    }

    public int years(int n) {
        if (now.tunes == 0) {
            return refuse(BEYOND);
        }
        if (!within(n, 1, MOST_YEARS)) {
            return refuse(WRONG);
        }
        for (int i = 0; i < n; i++) {
            int tune = now.draw(now.tunes);
            int pitch = now.draw(PITCHES);
            int verses = 1 + now.draw(MOST_VERSES);
            singInTruth(now, tune, pitch, verses);
        }
        return now.knownTogether();
    }

    public int seed(int v) {
        int was = now.seed;
        now.seed = v;
        return was;
    }

    // ---- moves, the image, status ----

    public int act(int voice, int move, int x) {
        moves.forget();
        if (!now.hasVoice(voice) || !within(move, 0, Moves.MOVES - 1)) {
            return 0;
        }
        return moves.start(now.kind[voice], voice, now.a[voice], move, x);
    }

    public int trace(int i) {
        return moves.bodyAt(i);
    }

    public int image() {
        kept.become(now);
        hasImage = true;
        return now.voices;
    }

    public int restore() {
        if (!hasImage) {
            return refuse(WRONG);
        }
        now.become(kept);
        shelves.dropVoicesFrom(now.voices);
        return now.voices;
    }

    public int status(int what) {
        if (within(what, 11, 17)) {
            return refusals[what - 10];
        }
        switch (what) {
            case 0:
                return now.voices;
            case 1:
                return now.tunes;
            case 2:
                return now.hymns;
            case 3:
                return now.wait;
            case 4:
                return now.knownTogether();
            case 5:
                return Church.PLACES - now.voices;
            case 6:
                return now.seed;
            case 7:
                return moves.ran;
            default:
                return NONE;
        }
    }

    // ---- refusals ----

    private int refuse(int number) {
        if (within(-number, 1, 7)) {
            refusals[-number]++;
        }
        return number;
    }

    private int noRow(int s) {
        if (!shelves.has(s)) {
            return NOBODY;
        }
        if (shelves.held[s] == NONE) {
            return NOTHING;
        }
        return shelves.holdsRow(s) ? 0 : OTHER;
    }

    private int noPairOfRows(int p, int q) {
        int noP = noRow(p);
        int noQ = noRow(q);
        if (noP == NOBODY || noQ == NOBODY) {
            return NOBODY;
        }
        if (noP == OTHER || noQ == OTHER) {
            return OTHER;
        }
        if (noP == NOTHING || noQ == NOTHING) {
            return NOTHING;
        }
        return shelves.held[p] == shelves.held[q] ? 0 : OTHER;
    }

    private int noPart(int s, int n) {
        int no = noRow(s);
        if (no != 0) {
            return no;
        }
        if (n < 0) {
            return BELOW;
        }
        return shelves.hasPart(s, 0, n) ? 0 : BEYOND;
    }

    private static boolean within(int v, int least, int most) {
        return v >= least && v <= most;
    }

    private static boolean isKind(int kind) {
        return kind >= 0 && kind < ABOVE.length;
    }

    private static boolean isPitch(int pitch) {
        return within(pitch, 0, PITCHES - 1);
    }

    private static boolean isVerse(int verse) {
        return within(verse, 0, LAST_VERSE);
    }

    private static boolean isOrIsUnder(int kind, int wanted) {
        int at = kind;
        for (int up = 0; up < ABOVE.length && isKind(at); up++) {
            if (at == wanted) {
                return true;
            }
            at = ABOVE[at];
        }
        return false;
    }

    // ---- singing, in truth and as if ----

    /** The PLACES from which the TUNE is sung RIGHT at the VERSE. */
    private int rightAt(Church who, int tune, int pitch, int verse) {
        singing.begin(who, tune, pitch);
        return singing.singTo(verse);
    }

    /** How many sing RIGHT with leaders on two PLACES (or one twice); NONE if a PLACE isn't free. */
    private int rightLedFrom(int one, int other, int tune, int pitch, int verse) {
        if (!now.isFree(one) || !now.isFree(other)) {
            return NONE;
        }
        draft.voices = now.voices;
        draft.addLeader(one);
        if (other != one) {
            draft.addLeader(other);
        }
        int leading = 1 << one | 1 << other;
        return Integer.bitCount(rightAt(draft, tune, pitch, verse) & ~leading);
    }

    private boolean catchesIfTaught(int pupils, int tune, int pitch) {
        for (int v = 0; v < now.voices; v++) {
            draft.learn(v, tune, now.knowsIt(v, tune) || (pupils >> v & 1) != 0);
        }
        singing.begin(draft, tune, pitch);
        return singing.catchesAt() != NONE;
    }

    private int lateLedBy(int t, int n) {
        return t * Math.max(0, now.wait - n);
    }

    private int singInTruth(Church who, int tune, int pitch, int verses) {
        singing.begin(who, tune, pitch);
        int right = singing.singTo(verses - 1);
        who.learnAll(right, tune);
        who.hymns++;
        return Integer.bitCount(right);
    }

    private int singTold(Church who, int told) {
        return singInTruth(who, told / 100, told / 10 % 10, told % 10);
    }

    private boolean maySing(int s, int n) {
        return n <= MOST_TOLD && firstWrong(s, n) == NONE;
    }

    private int firstWrong(int s, int n) {
        for (int i = 0; i < n; i++) {
            int told = shelves.told(s, i);
            if (told < 0 || !now.hasTune(told / 100) || !isPitch(told / 10 % 10) || told % 10 == 0) {
                return i;
            }
        }
        return NONE;
    }

    /** VOICES, TUNES and numbers: all that THE IMAGE has. */
    private static final class Church {
        static final int PLACES = 24;
        static final int SEATS = 6;
        static final int MOST_TUNES = 6;
        static final int MOST_VOICES = 12;
        static final int MOST_LEADERS = 2;
        static final int MOST_A = 9;
        static final int MOST_WAIT = 9;

        // LEADERS are tried as two VOICES beyond the most there may be
        final int[] kind = new int[MOST_VOICES + MOST_LEADERS];
        final int[] a = new int[MOST_VOICES + MOST_LEADERS];
        final int[] place = new int[MOST_VOICES + MOST_LEADERS];
        final int[] bold = new int[MOST_VOICES + MOST_LEADERS];
        final int[] top = new int[MOST_VOICES + MOST_LEADERS];
        final int[] knows = new int[MOST_VOICES + MOST_LEADERS];
        final int[] high = new int[MOST_TUNES];
        int voices = 0;
        int tunes = 0;
        int wait = 2;
        int hymns = 0;
        int seed = 1;

        Church() {
        }

        void become(Church other) {
            System.arraycopy(other.kind, 0, kind, 0, kind.length);
            System.arraycopy(other.a, 0, a, 0, a.length);
            System.arraycopy(other.place, 0, place, 0, place.length);
            System.arraycopy(other.bold, 0, bold, 0, bold.length);
            System.arraycopy(other.top, 0, top, 0, top.length);
            System.arraycopy(other.knows, 0, knows, 0, knows.length);
            System.arraycopy(other.high, 0, high, 0, high.length);
            voices = other.voices;
            tunes = other.tunes;
            wait = other.wait;
            hymns = other.hymns;
            seed = other.seed;
        }

        boolean hasVoice(int v) {
            return v >= 0 && v < voices;
        }

        boolean hasTune(int t) {
            return t >= 0 && t < tunes;
        }

        boolean hasRoomForVoice() {
            return voices < MOST_VOICES;
        }

        boolean hasRoomForTune() {
            return tunes < MOST_TUNES;
        }

        boolean isFree(int where) {
            for (int v = 0; v < voices; v++) {
                if (place[v] == where) {
                    return false;
                }
            }
            return where >= 0 && where < PLACES;
        }

        int addTune(int itsHigh) {
            if (tunes >= high.length) {
                return NONE;
            }
            high[tunes] = itsHigh;
            tunes++;
            return tunes - 1;
        }

        int addVoice(int itsKind, int itsA, int where, int howBold, int itsTop) {
            if (voices >= kind.length) {
                return NONE;
            }
            kind[voices] = itsKind;
            a[voices] = itsA;
            place[voices] = where;
            bold[voices] = howBold;
            top[voices] = itsTop;
            knows[voices] = 0;
            voices++;
            return voices - 1;
        }

        void addLeader(int where) {
            int v = addVoice(LEADING, 0, where, BOLDEST, HIGHEST);
            if (hasVoice(v)) {
                knows[v] = allTunes();
            }
        }

        void changePlaces(int one, int other) {
            int was = place[one];
            place[one] = place[other];
            place[other] = was;
        }

        boolean knowsIt(int v, int t) {
            return (knows[v] >> t & 1) != 0;
        }

        void learn(int v, int t, boolean is) {
            knows[v] = is ? knows[v] | 1 << t : knows[v] & ~(1 << t);
        }

        void learnAll(int places, int t) {
            for (int v = 0; v < voices; v++) {
                if ((places >> place[v] & 1) != 0) {
                    learn(v, t, true);
                }
            }
        }

        int voicesIn(int places) {
            int bits = 0;
            for (int v = 0; v < voices; v++) {
                bits |= (places >> place[v] & 1) << v;
            }
            return bits;
        }

        boolean isInReach(int v, int t, int atPitch) {
            return high[t] + atPitch <= top[v];
        }

        int needOf(int v, int t) {
            boolean knowing = knowsIt(v, t);
            switch (kind[v]) {
                case BOOMER:
                    return 0;
                case JOINING:
                case MIME:
                    return a[v];
                case LEADING:
                    return knowing ? 0 : needByBold(v, knowing);
                default:
                    return needByBold(v, knowing);
            }
        }

        private int needByBold(int v, boolean knowing) {
            return knowing ? Math.max(0, 2 - bold[v]) : Math.max(1, 4 - bold[v]);
        }

        int allTunes() {
            return (1 << tunes) - 1;
        }

        int knownTogether() {
            int sum = 0;
            for (int v = 0; v < voices; v++) {
                sum += Integer.bitCount(knows[v]);
            }
            return sum;
        }

        int knownToAll() {
            int bits = allTunes();
            for (int v = 0; v < voices; v++) {
                bits &= knows[v];
            }
            return bits;
        }

        /** The VOICE whose KNOWS is the same as most others'. */
        int likestVoice() {
            int best = NONE;
            int most = 0;
            for (int v = 0; v < voices; v++) {
                int alike = 0;
                for (int w = 0; w < voices; w++) {
                    alike += knows[w] == knows[v] ? 1 : 0;
                }
                if (alike > most) {
                    most = alike;
                    best = v;
                }
            }
            return best;
        }

        int draw(int below) {
            seed = seed * 1103515245 + 12345;
            return below > 0 ? (seed >>> 16) % below : 0;
        }
    }

    /** A TUNE sung VERSE by VERSE; who sings is kept as bits of PLACES, so that NEAR is a mask. */
    private static final class Singing {
        private static final int SAME_VERSES = 3;

        final int[] near = new int[Church.PLACES];
        final int[] need = new int[Church.MOST_VOICES + Church.MOST_LEADERS];
        Church who;
        int inReach = 0;
        int knowing = 0;
        int right = 0;
        int wrong = 0;
        int miming = 0;
        int activeAhead = 0;
        boolean sameAsAhead = false;
        boolean forEver = false;

        Singing(Church first) {
            who = first;
            for (int place = 0; place < Church.PLACES; place++) {
                near[place] = placesNearOne(place);
            }
        }

        private static int placesNearOne(int place) {
            int bits = 0;
            for (int other = 0; other < Church.PLACES; other++) {
                int rows = Math.abs(other / Church.SEATS - place / Church.SEATS);
                int seats = Math.abs(other % Church.SEATS - place % Church.SEATS);
                if (Math.max(rows, seats) == 1) {
                    bits |= 1 << other;
                }
            }
            return bits;
        }

        int placesNear(int places) {
            int bits = 0;
            for (int place = 0; place < Church.PLACES; place++) {
                if ((near[place] & places) != 0) {
                    bits |= 1 << place;
                }
            }
            return bits;
        }

        void begin(Church singers, int tune, int atPitch) {
            who = singers;
            inReach = 0;
            knowing = 0;
            for (int v = 0; v < who.voices; v++) {
                need[v] = who.needOf(v, tune);
                inReach |= (who.isInReach(v, tune, atPitch) ? 1 : 0) << v;
                knowing |= (who.knowsIt(v, tune) ? 1 : 0) << v;
            }
            right = 0;
            wrong = 0;
            miming = 0;
            activeAhead = 0;
            sameAsAhead = false;
            forEver = false;
        }

        // who is out of reach is never heard, so he might as well not be there
        void leaveOut(int v) {
            inReach &= ~(1 << v);
        }

        void nextVerse() {
            int nextRight = 0;
            int nextWrong = 0;
            int nextMiming = 0;
            for (int v = 0; v < who.voices; v++) {
                int bit = 1 << who.place[v];
                if (!joinsIn(v)) {
                    continue;
                }
                if (who.kind[v] == MIME) {
                    nextMiming |= bit;
                } else if (singsRight(v)) {
                    nextRight |= bit;
                } else {
                    nextWrong |= bit;
                }
            }
            int active = right | wrong | miming;
            sameAsAhead = nextRight == right && nextWrong == wrong && nextMiming == miming;
            // a VERSE comes of the one ahead and, by DRAGGERS, of who was active at the one before that
            forEver = sameAsAhead && active == activeAhead;
            activeAhead = active;
            right = nextRight;
            wrong = nextWrong;
            miming = nextMiming;
        }

        private boolean joinsIn(int v) {
            if ((inReach >> v & 1) == 0) {
                return false;
            }
            int around = near[who.place[v]];
            if (Integer.bitCount(around & (right | wrong | miming)) < need[v]) {
                return false;
            }
            return who.kind[v] != DRAGGER || Integer.bitCount(around & activeAhead) >= need[v];
        }

        private boolean singsRight(int v) {
            int around = near[who.place[v]];
            boolean ledWrong = Integer.bitCount(around & wrong) > Integer.bitCount(around & right);
            boolean knowsIt = (knowing >> v & 1) != 0;
            switch (who.kind[v]) {
                case ASTRAY:
                case DRAGGER:
                    return !ledWrong;
                case BOOMER:
                    return knowsIt;
                default:
                    return knowsIt || !ledWrong;
            }
        }

        /** The PLACES from which it is sung RIGHT at the last VERSE. */
        int singTo(int lastVerse) {
            for (int v = 0; v <= lastVerse && !forEver; v++) {
                nextVerse();
            }
            return right;
        }

        int catchesAt() {
            for (int v = 0; v <= LAST_VERSE && !forEver; v++) {
                nextVerse();
                if (2 * Integer.bitCount(right) >= who.voices) {
                    return v;
                }
            }
            return NONE;
        }

        int settlesAt() {
            int since = 0;
            for (int v = 0; v <= LAST_VERSE + SAME_VERSES; v++) {
                nextVerse();
                if (!sameAsAhead) {
                    since = v;
                }
                if (v - since == SAME_VERSES) {
                    return since;
                }
            }
            return NONE;
        }

        boolean isHeardAs(long[] counts, int n) {
            for (int v = 0; v < n && v < counts.length; v++) {
                nextVerse();
                if (Integer.bitCount(right | wrong) != (int) counts[v]) {
                    return false;
                }
            }
            return true;
        }
    }

    /** What stands on the SHELVES; a ROW is kept as longs, cut to its SORT when something is put in. */
    private static final class Shelves {
        static final int SHELVES = 8;
        static final int SORTS = 4;
        static final int LONGEST = 160;
        private static final int ROW = 100;

        final long[][] rows = new long[SHELVES][LONGEST];
        final int[] sizes = new int[SHELVES];
        /** For each SHELF NONE, a VOICE's number, or ROW and the SORT. */
        final int[] held = {NONE, NONE, NONE, NONE, NONE, NONE, NONE, NONE};

        Shelves() {
        }

        boolean has(int s) {
            return s >= 0 && s < SHELVES;
        }

        boolean holdsRow(int s) {
            return has(s) && held[s] >= ROW;
        }

        boolean hasElement(int s, int i) {
            return holdsRow(s) && i >= 0 && i < sizes[s];
        }

        boolean hasPart(int s, int from, int n) {
            return holdsRow(s) && from >= 0 && from <= sizes[s] && n >= 0 && n <= sizes[s] - from;
        }

        void holdRow(int s, int sort, int n) {
            held[s] = ROW + sort;
            sizes[s] = n;
            for (int i = 0; i < LONGEST; i++) {
                rows[s][i] = 0;
            }
        }

        void put(int s, int i, long v) {
            rows[s][i] = lowestBits(held[s] - ROW, v);
        }

        private static long lowestBits(int sort, long v) {
            switch (sort) {
                case 0:
                    return (byte) v;
                case 1:
                    return (short) v;
                case 2:
                    return (int) v;
                default:
                    return v;
            }
        }

        int told(int s, int i) {
            return hasElement(s, i) ? (int) rows[s][i] : 0;
        }

        void dropVoicesFrom(int number) {
            for (int s = 0; s < SHELVES; s++) {
                if (held[s] >= number && held[s] < ROW) {
                    held[s] = NONE;
                }
            }
        }
    }

    /** Reads a CHURCH from letters into a draft; what it read of a faulty text is the draft's alone. */
    private static final class Text {
        private static final int TUNE_ITEM = 0;
        private static final int VOICE_ITEM = 1;
        private static final int KNOWS_ITEM = 2;
        private static final int MOVES_ITEM = 3;
        private static final int WAIT_ITEM = 4;
        private static final int ITEMS = 5;
        private static final int[] NUMBERS_OF = {1, 5, 2, 2, 1};
        private static final int MOST_DIGITS = 2;

        final Church draft;
        final int[] numbers = new int[5];
        long[] letters = new long[0];
        int size = 0;
        int at = 0;
        int fault = NONE;

        Text(Church church) {
            draft = church;
        }

        /** How many ITEMS were read; fault tells whether all could stand. */
        int readItems(long[] row, int elements) {
            letters = row;
            size = Math.min(elements, row.length);
            at = 0;
            fault = NONE;
            int items = 0;
            boolean more = true;
            for (int turn = 0; turn <= size && more; turn++) {
                more = readItem() && at < size && takeLetter(';');
                items++;
            }
            return items;
        }

        private boolean readItem() {
            int start = at;
            int item = itemAt();
            if (item == NONE) {
                return faultAt(at);
            }
            if (!takeWord(wordOf(item))) {
                return false;
            }
            if (!hasRoomFor(item)) {
                return faultAt(start);
            }
            for (int i = 0; i < NUMBERS_OF[item]; i++) {
                if (!takeLetter(' ') || !takeNumber(item, i)) {
                    return false;
                }
            }
            tell(item);
            return true;
        }

        private boolean faultAt(int where) {
            fault = where;
            return false;
        }

        private int letter() {
            return at >= 0 && at < size ? (int) letters[at] : NONE;
        }

        // no two words begin alike, so the first letter says which it must be
        private int itemAt() {
            for (int item = 0; item < ITEMS; item++) {
                if (letter() == wordOf(item).charAt(0)) {
                    return item;
                }
            }
            return NONE;
        }

        private static String wordOf(int item) {
            switch (item) {
                case TUNE_ITEM:
                    return "tune";
                case VOICE_ITEM:
                    return "voice";
                case KNOWS_ITEM:
                    return "knows";
                case MOVES_ITEM:
                    return "moves";
                default:
                    return "wait";
            }
        }

        private boolean takeWord(String word) {
            for (int i = 0; i < word.length(); i++) {
                if (!takeLetter(word.charAt(i))) {
                    return false;
                }
            }
            return true;
        }

        private boolean takeLetter(char wanted) {
            if (letter() != wanted) {
                return faultAt(at);
            }
            at++;
            return true;
        }

        private boolean takeNumber(int item, int which) {
            int start = at;
            int value = 0;
            for (int digit = 0; digit < MOST_DIGITS && within(letter(), '0', '9'); digit++) {
                value = 10 * value + letter() - '0';
                at++;
            }
            if (at == start || !mayBe(item, which, value)) {
                return faultAt(start);
            }
            numbers[which] = value;
            return true;
        }

        private boolean hasRoomFor(int item) {
            switch (item) {
                case TUNE_ITEM:
                    return draft.hasRoomForTune();
                case VOICE_ITEM:
                    return draft.hasRoomForVoice();
                default:
                    return true;
            }
        }

        private boolean mayBe(int item, int which, int value) {
            switch (item) {
                case TUNE_ITEM:
                    return value <= HIGHEST;
                case VOICE_ITEM:
                    return mayBeOfVoice(which, value);
                case KNOWS_ITEM:
                    return which == 0 ? draft.hasVoice(value) : draft.hasTune(value);
                case MOVES_ITEM:
                    return which == 0 ? draft.hasVoice(value) : draft.isFree(value);
                default:
                    return value <= Church.MOST_WAIT;
            }
        }

        private boolean mayBeOfVoice(int which, int value) {
            switch (which) {
                case 0:
                    return isKind(value);
                case 1:
                    return value <= Church.MOST_A;
                case 2:
                    return draft.isFree(value);
                case 3:
                    return value <= BOLDEST;
                default:
                    return value <= HIGHEST;
            }
        }

        private void tell(int item) {
            switch (item) {
                case TUNE_ITEM:
                    draft.addTune(numbers[0]);
                    break;
                case VOICE_ITEM:
                    draft.addVoice(numbers[0], numbers[1], numbers[2], numbers[3], numbers[4]);
                    break;
                case KNOWS_ITEM:
                    draft.learn(numbers[0], numbers[1], true);
                    break;
                case MOVES_ITEM:
                    draft.place[numbers[0]] = numbers[1];
                    break;
                default:
                    draft.wait = numbers[0];
                    break;
            }
        }
    }

    /** MOVES of one VOICE and the BODIES that ran in them. */
    private static final class Moves {
        static final int MOVES = 3;
        private static final int BREATHES = 0;
        private static final int SINGS = 1;
        private static final int MOST_KEPT = 20;
        private static final int DEEPEST = 40;
        /** For each KIND the body by which it breathes, sings, sits: its own, or that of the next above. */
        private static final int[] BODIES = {
            10, 11, 12,
            20, 11, 12,
            10, 30, 12,
            20, 40, 12,
            51, 11, 50,
            10, 30, 60,
            70, 71, 50,
        };

        final int[] bodies = new int[MOST_KEPT];
        int ran = 0;
        int kind = VOICE;
        int m = 0;
        int k = 0;

        Moves() {
        }

        void forget() {
            ran = 0;
        }

        int start(int itsKind, int number, int itsA, int move, int x) {
            kind = itsKind;
            m = number;
            k = itsA;
            return runFrom(kind, move, x, 0);
        }

        int bodyAt(int i) {
            return i >= 0 && i < MOST_KEPT && i < ran ? bodies[i] : NONE;
        }

        private void note(int body) {
            if (ran < MOST_KEPT) {
                bodies[ran] = body;
            }
            ran++;
        }

        private int runFrom(int from, int move, int x, int depth) {
            if (depth > DEEPEST || !isKind(from) || !within(move, 0, MOVES - 1)) {
                return 0;
            }
            int body = BODIES[MOVES * from + move];
            note(body);
            return runBody(body, move, x, depth + 1);
        }

        // the tens of a body's number say whose it is
        private static int kindAboveThatOf(int body) {
            int whose = body / 10 - 1;
            return isKind(whose) ? ABOVE[whose] : NONE;
        }

        private int runBody(int body, int move, int x, int depth) {
            int above = kindAboveThatOf(body);
            switch (body) {
                case 10:
                    return x + m;
                case 11:
                    return runFrom(kind, BREATHES, x, depth) * 2;
                case 12:
                    return runFrom(kind, SINGS, x, depth) ^ runFrom(kind, BREATHES, x - k, depth);
                case 20:
                    return runFrom(above, move, x, depth) + k;
                case 30:
                    return runFrom(above, move, x, depth) * 3;
                case 40:
                    return runFrom(above, move, x + 1, depth);
                case 50:
                    return -runFrom(above, move, x, depth);
                case 51:
                    return runFrom(above, move, x, depth) - m;
                case 60:
                    return runFrom(above, move, x, depth) ^ 5;
                case 70:
                    return runFrom(above, move, x, depth) * 2;
                case 71:
                    return runFrom(above, move, x - k, depth);
                default:
                    return 0;
            }
        }
    }
}

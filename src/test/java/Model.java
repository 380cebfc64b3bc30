import java.util.ArrayList;
import java.util.Arrays;
import java.util.List;
import java.util.TreeSet;

/**
 * The document told a second time, as plainly as can be and in other ways than the class: voices are objects,
 * what is sung is a text a VERSE, every VERSE is sung. Method names are those of the face.
 */
final class Model {
    /** A refused call: thrown where the document refuses, answered and counted by the driver. */
    static final class Refused extends RuntimeException {
        private static final long serialVersionUID = 1L;
        final int number;

        Refused(int number) {
            super(null, null, false, false);
            this.number = number;
        }
    }

    /** A text that can't stand, and where. */
    private static final class Fault extends RuntimeException {
        private static final long serialVersionUID = 1L;
        final int place;

        Fault(int place) {
            super(null, null, false, false);
            this.place = place;
        }
    }

    private static class Voice {
        int kind = 0;
        int number;
        int a;
        int place;
        int bold;
        int top;
        TreeSet<Integer> knows = new TreeSet<>();
        List<Integer> trace;

        int breathes(int x) {
            trace.add(10);
            return x + number;
        }

        int sings(int x) {
            trace.add(11);
            return breathes(x) * 2;
        }

        int sits(int x) {
            trace.add(12);
            return sings(x) ^ breathes(x - a);
        }

        int saysAs(int asKind) {
            switch (asKind) {
                case 0: return place;
                case 1: case 3: return top;
                case 2: case 5: return a;
                default: return knows.size();
            }
        }

        int need(int tune) {
            return knows.contains(tune) ? Math.max(0, 2 - bold) : Math.max(1, 4 - bold);
        }

        /** R, W or M, once he joins in among so many RIGHT and WRONG. */
        char part(int tune, int right, int wrong) {
            return knows.contains(tune) || wrong <= right ? 'R' : 'W';
        }

        boolean isHurried() {
            return true;
        }
    }

    private static class Leading extends Voice {
        @Override int breathes(int x) {
            trace.add(20);
            return super.breathes(x) + a;
        }

        @Override int need(int tune) {
            return knows.contains(tune) ? 0 : super.need(tune);
        }
    }

    private static class Joining extends Voice {
        @Override int sings(int x) {
            trace.add(30);
            return super.sings(x) * 3;
        }

        @Override int need(int tune) {
            return a;
        }
    }

    private static class Boomer extends Leading {
        @Override int sings(int x) {
            trace.add(40);
            return super.sings(x + 1);
        }

        @Override int need(int tune) {
            return 0;
        }

        @Override char part(int tune, int right, int wrong) {
            return knows.contains(tune) ? 'R' : 'W';
        }
    }

    private static class Astray extends Voice {
        @Override int sits(int x) {
            trace.add(50);
            return -super.sits(x);
        }

        @Override int breathes(int x) {
            trace.add(51);
            return super.breathes(x) - number;
        }

        @Override char part(int tune, int right, int wrong) {
            return wrong > right ? 'W' : 'R';
        }
    }

    private static class Mime extends Joining {
        @Override int sits(int x) {
            trace.add(60);
            return super.sits(x) ^ 5;
        }

        @Override char part(int tune, int right, int wrong) {
            return 'M';
        }
    }

    private static class Dragger extends Astray {
        @Override int breathes(int x) {
            trace.add(70);
            return super.breathes(x) * 2;
        }

        @Override int sings(int x) {
            trace.add(71);
            return super.sings(x - a);
        }

        @Override boolean isHurried() {
            return false;
        }
    }

    private static Voice make(int kind, int number, int a, int place, int bold, int top) {
        Voice v;
        switch (kind) {
            case 0: v = new Voice(); break;
            case 1: v = new Leading(); break;
            case 2: v = new Joining(); break;
            case 3: v = new Boomer(); break;
            case 4: v = new Astray(); break;
            case 5: v = new Mime(); break;
            default: v = new Dragger(); break;
        }
        v.kind = kind;
        v.number = number;
        v.a = a;
        v.place = place;
        v.bold = bold;
        v.top = top;
        return v;
    }

    private static final class Church {
        List<Voice> voices = new ArrayList<>();
        List<Integer> highs = new ArrayList<>();
        int wait = 2;
        int hymns = 0;
        int seed = 1;

        Church twin() {
            Church c = new Church();
            for (Voice v : voices) {
                Voice w = make(v.kind, v.number, v.a, v.place, v.bold, v.top);
                w.knows.addAll(v.knows);
                c.voices.add(w);
            }
            c.highs.addAll(highs);
            c.wait = wait;
            c.hymns = hymns;
            c.seed = seed;
            return c;
        }

        boolean free(int place) {
            return place >= 0 && place < 24 && voices.stream().noneMatch(v -> v.place == place);
        }

        static boolean near(int p, int q) {
            return p != q && Math.abs(p / 6 - q / 6) <= 1 && Math.abs(p % 6 - q % 6) <= 1;
        }

        int count(String sung, Voice at, String parts) {
            int n = 0;
            for (Voice w : voices) {
                if (near(w.place, at.place) && parts.indexOf(sung.charAt(voices.indexOf(w))) >= 0) {
                    n++;
                }
            }
            return n;
        }

        /** For VERSES 0 to last who sings what, a sign a VOICE. */
        List<String> sing(int tune, int pitch, int last) {
            String silence = "-".repeat(voices.size());
            List<String> verses = new ArrayList<>();
            for (int verse = 0; verse <= last; verse++) {
                String ahead = verse >= 1 ? verses.get(verse - 1) : silence;
                String before = verse >= 2 ? verses.get(verse - 2) : silence;
                StringBuilder now = new StringBuilder();
                for (Voice v : voices) {
                    boolean joins = highs.get(tune) + pitch <= v.top && count(ahead, v, "RWM") >= v.need(tune)
                            && (v.isHurried() || count(before, v, "RWM") >= v.need(tune));
                    now.append(joins ? v.part(tune, count(ahead, v, "R"), count(ahead, v, "W")) : '-');
                }
                verses.add(now.toString());
            }
            return verses;
        }

        int right(int tune, int pitch, int verse) {
            return bits(sing(tune, pitch, verse).get(verse), 'R');
        }

        int catches(int tune, int pitch) {
            List<String> verses = sing(tune, pitch, 40);
            for (int verse = 0; verse <= 40; verse++) {
                if (2 * Integer.bitCount(bits(verses.get(verse), 'R')) >= voices.size()) {
                    return verse;
                }
            }
            return -1;
        }

        boolean heardAs(int tune, int pitch, int[] counts) {
            List<String> verses = sing(tune, pitch, counts.length);
            for (int i = 0; i < counts.length; i++) {
                String sung = verses.get(i);
                if (Integer.bitCount(bits(sung, 'R') | bits(sung, 'W')) != counts[i]) {
                    return false;
                }
            }
            return true;
        }

        int hymn(int tune, int pitch, int n) {
            String sung = sing(tune, pitch, n - 1).get(n - 1);
            for (Voice v : voices) {
                if (sung.charAt(v.number) == 'R') {
                    v.knows.add(tune);
                }
            }
            hymns++;
            return Integer.bitCount(bits(sung, 'R'));
        }

        int draw(int n) {
            seed = seed * 1103515245 + 12345;
            return ((seed >> 16) & 0xffff) % n;
        }

        int known() {
            return voices.stream().mapToInt(v -> v.knows.size()).sum();
        }
    }

    private static int bits(String sung, char part) {
        int bits = 0;
        for (int i = 0; i < sung.length(); i++) {
            bits |= sung.charAt(i) == part ? 1 << i : 0;
        }
        return bits;
    }

    private static final class Row {
        final int sort;
        final long[] elements;

        Row(int sort, int n) {
            this.sort = sort;
            elements = new long[n];
        }
    }

    private Church now = new Church();
    private Church image = null;
    private final Object[] shelves = new Object[8];
    private List<Integer> trace = new ArrayList<>();
    private int fault = -1;
    final int[] refusals = new int[8];

    private static void refuseIf(boolean is, int number) {
        if (is) {
            throw new Refused(number);
        }
    }

    private static boolean in(int v, int least, int most) {
        return v >= least && v <= most;
    }

    private void shelf(int s) {
        refuseIf(!in(s, 0, 7), -1);
    }

    private void voiced(int v) {
        refuseIf(!in(v, 0, now.voices.size() - 1), -1);
    }

    private void tuned(int t) {
        refuseIf(!in(t, 0, now.highs.size() - 1), -1);
    }

    private Row rowIn(int s) {
        shelf(s);
        refuseIf(shelves[s] instanceof Integer, -2);
        refuseIf(shelves[s] == null, -3);
        return (Row) shelves[s];
    }

    private int[] first(int s, int n) {
        Row r = rowIn(s);
        refuseIf(n < 0, -4);
        refuseIf(n > r.elements.length, -5);
        int[] ints = new int[n];
        for (int i = 0; i < n; i++) {
            ints[i] = (int) r.elements[i];
        }
        return ints;
    }

    /** Another way to tell a refusal: so much less, and counted all the same. */
    private static Refused less(Refused r, int by) {
        return new Refused(r.number - by);
    }

    public int row(int s, int sort, int n) {
        shelf(s);
        refuseIf(n < 0, -4);
        refuseIf(!in(sort, 0, 3), -6);
        refuseIf(n > 160, -7);
        shelves[s] = new Row(sort, n);
        return 1;
    }

    public int set(int s, int i, long v) {
        Row r = rowIn(s);
        refuseIf(!in(i, 0, r.elements.length - 1), -5);
        int kept = 64 - (8 << r.sort);
        r.elements[i] = v << kept >> kept;
        return 1;
    }

    public int copy(int p, int q, int i, int j, int n) {
        shelf(p);
        shelf(q);
        Object from = shelves[p];
        Object to = shelves[q];
        refuseIf(from instanceof Integer || to instanceof Integer, -2);
        refuseIf(from != null && to != null && ((Row) from).sort != ((Row) to).sort, -2);
        refuseIf(from == null || to == null, -3);
        refuseIf(n < 0, -4);
        long[] a = ((Row) from).elements;
        long[] b = ((Row) to).elements;
        refuseIf(i < 0 || j < 0 || (long) i + n > a.length || (long) j + n > b.length, -5);
        long[] was = a.clone();
        for (int e = 0; e < n; e++) {
            b[j + e] = was[i + e];
        }
        return 1;
    }

    public long element(int s, int i) {
        if (!in(s, 0, 7) || !(shelves[s] instanceof Row)) {
            return 0;
        }
        long[] elements = ((Row) shelves[s]).elements;
        return in(i, 0, elements.length - 1) ? elements[i] : 0;
    }

    public int show(int s, int voice) {
        shelf(s);
        if (voice != -1) {
            voiced(voice);
        }
        shelves[s] = voice == -1 ? null : (Object) voice;
        return voice == -1 ? 0 : 1;
    }

    public int holds(int s) {
        if (!in(s, 0, 7) || shelves[s] == null) {
            return -1;
        }
        return shelves[s] instanceof Row ? 100 + ((Row) shelves[s]).sort : (Integer) shelves[s];
    }

    public int says(int s, int kind) {
        shelf(s);
        refuseIf(!in(kind, 0, 6), -1);
        refuseIf(shelves[s] instanceof Row, -2);
        refuseIf(shelves[s] == null, -3);
        Voice v = now.voices.get((Integer) shelves[s]);
        refuseIf(!make(kind, 0, 0, 0, 0, 0).getClass().isInstance(v), -2);
        return v.saysAs(kind);
    }

    public int tune(int high) {
        refuseIf(!in(high, 0, 11), -6);
        refuseIf(now.highs.size() == 6, -7);
        now.highs.add(high);
        return now.highs.size() - 1;
    }

    public int voice(int kind, int a, int place, int bold, int top) {
        refuseIf(!in(kind, 0, 6), -1);
        refuseIf(!in(a, 0, 9) || !now.free(place) || !in(bold, 0, 5) || !in(top, 0, 11), -6);
        int number = now.voices.size();
        refuseIf(number == 12, -7);
        now.voices.add(make(kind, number, a, place, bold, top));
        return number;
    }

    public int knows(int voice, int tune, boolean is) {
        voiced(voice);
        tuned(tune);
        TreeSet<Integer> knows = now.voices.get(voice).knows;
        boolean did = is ? !knows.add(tune) : knows.remove(tune);
        return did ? 1 : 0;
    }

    public int move(int voice, int place) {
        voiced(voice);
        refuseIf(!now.free(place), -6);
        int was = now.voices.get(voice).place;
        now.voices.get(voice).place = place;
        return was;
    }

    public int ask(int v) {
        refuseIf(!in(v, 0, 9), -6);
        int was = now.wait;
        now.wait = v;
        return was;
    }

    private static int asBits(TreeSet<Integer> set) {
        return set.stream().mapToInt(t -> 1 << t).sum();
    }

    public int voiceOf(int voice, int what) {
        refuseIf(!in(voice, 0, now.voices.size() - 1) || !in(what, 0, 5), -5);
        Voice v = now.voices.get(voice);
        return new int[] {v.kind, v.a, v.place, v.bold, v.top, asBits(v.knows)}[what];
    }

    public int highOf(int tune) {
        refuseIf(!in(tune, 0, now.highs.size() - 1), -5);
        return now.highs.get(tune);
    }

    private int[] letters;
    private int at;

    private void expect(String text) {
        for (char c : text.toCharArray()) {
            if (at >= letters.length || letters[at] != c) {
                throw new Fault(at);
            }
            at++;
        }
    }

    private boolean digitHere() {
        return at < letters.length && letters[at] >= '0' && letters[at] <= '9';
    }

    private interface Allowed {
        boolean may(int n);
    }

    private int number(Allowed allowed) {
        expect(" ");
        int start = at;
        String digits = "";
        while (digitHere() && digits.length() < 2) {
            digits += (char) letters[at++];
        }
        if (digits.isEmpty() || !allowed.may(Integer.parseInt(digits))) {
            throw new Fault(start);
        }
        return Integer.parseInt(digits);
    }

    private void item(Church c) {
        int start = at;
        int sign = at < letters.length ? letters[at] : -1;
        switch (sign) {
            case 't':
                expect("tune");
                roomOr(c.highs.size() < 6, start);
                c.highs.add(number(n -> n <= 11));
                break;
            case 'v':
                expect("voice");
                roomOr(c.voices.size() < 12, start);
                int kind = number(n -> n <= 6);
                int a = number(n -> n <= 9);
                int place = number(c::free);
                int bold = number(n -> n <= 5);
                c.voices.add(make(kind, c.voices.size(), a, place, bold, number(n -> n <= 11)));
                break;
            case 'k':
                expect("knows");
                Voice knower = c.voices.get(number(n -> n < c.voices.size()));
                knower.knows.add(number(n -> n < c.highs.size()));
                break;
            case 'm':
                expect("moves");
                Voice mover = c.voices.get(number(n -> n < c.voices.size()));
                mover.place = number(c::free);
                break;
            case 'w':
                expect("wait");
                c.wait = number(n -> n <= 9);
                break;
            default:
                throw new Fault(start);
        }
    }

    private static void roomOr(boolean room, int start) {
        if (!room) {
            throw new Fault(start);
        }
    }

    public int church(int s) {
        Row r = rowIn(s);
        letters = Arrays.stream(r.elements).mapToInt(e -> (int) e).toArray();
        at = 0;
        Church c = now.twin();
        int items = 0;
        try {
            item(c);
            items++;
            while (at < letters.length) {
                expect(";");
                item(c);
                items++;
            }
        } catch (Fault f) {
            fault = f.place;
            throw new Refused(-6);
        }
        fault = -1;
        now = c;
        return items;
    }

    public int fault() {
        return fault;
    }

    public int sung(int tune, int pitch, int verse, int what) {
        tuned(tune);
        refuseIf(!in(what, 0, 3), -5);
        refuseIf(!in(pitch, 0, 5) || !in(verse, 0, 40), -6);
        String sung = now.sing(tune, pitch, verse).get(verse);
        if (what < 3) {
            return bits(sung, "RWM".charAt(what));
        }
        int bits = 0;
        for (Voice v : now.voices) {
            bits |= now.count(sung, v, "R") > 0 ? 1 << v.number : 0;
        }
        return bits;
    }

    public int needs(int voice, int tune) {
        voiced(voice);
        tuned(tune);
        return now.voices.get(voice).need(tune);
    }

    public int verse(int tune, int pitch, int what) {
        try {
            tuned(tune);
            refuseIf(!in(what, 0, 1), -5);
            refuseIf(!in(pitch, 0, 5), -6);
        } catch (Refused r) {
            throw less(r, 10);
        }
        if (what == 0) {
            return now.catches(tune, pitch);
        }
        List<String> verses = now.sing(tune, pitch, 43);
        for (int v = 0; v <= 40; v++) {
            String sung = verses.get(v);
            if (sung.equals(verses.get(v + 1)) && sung.equals(verses.get(v + 2)) && sung.equals(verses.get(v + 3))) {
                return v;
            }
        }
        return -1;
    }

    public int best(int pitch, int verse) {
        refuseIf(now.highs.isEmpty(), -5);
        refuseIf(!in(pitch, 0, 5) || !in(verse, 0, 40), -6);
        int best = 0;
        for (int t = 1; t < now.highs.size(); t++) {
            if (Integer.bitCount(now.right(t, pitch, verse)) > Integer.bitCount(now.right(best, pitch, verse))) {
                best = t;
            }
        }
        return best;
    }

    public int pitch(int tune, int verse) {
        tuned(tune);
        refuseIf(!in(verse, 0, 40), -6);
        int best = 5;
        for (int p = 4; p >= 0; p--) {
            if (Integer.bitCount(now.right(tune, p, verse)) > Integer.bitCount(now.right(tune, best, verse))) {
                best = p;
            }
        }
        return best;
    }

    public int two(int verse) {
        refuseIf(!in(verse, 0, 40), -16);
        int best = -1;
        int most = -1;
        for (int pair = 0; pair < 60; pair++) {
            int t = pair / 10;
            int u = pair % 10;
            if (t < u && u < now.highs.size()) {
                int count = Integer.bitCount(now.right(t, 0, verse) | now.right(u, 0, verse));
                if (count > most) {
                    most = count;
                    best = pair;
                }
            }
        }
        return best;
    }

    private int led(int tune, int pitch, int verse, int... places) {
        Church c = now.twin();
        for (int place : places) {
            if (!c.free(place)) {
                return -1;
            }
            Voice leader = make(1, c.voices.size(), 0, place, 5, 11);
            for (int t = 0; t < c.highs.size(); t++) {
                leader.knows.add(t);
            }
            c.voices.add(leader);
        }
        return Integer.bitCount(c.right(tune, pitch, verse) & ((1 << now.voices.size()) - 1));
    }

    public int leaders(int tune, int pitch, int verse, int k, int i) {
        tuned(tune);
        if (k == 1 || k == 2) {
            refuseIf(i < -1 || i >= k, -5);
        }
        refuseIf(!in(k, 1, 2) || !in(pitch, 0, 5) || !in(verse, 0, 40), -6);
        int most = -1;
        int[] best = {-1, -1};
        for (int p = 0; p < 24; p++) {
            for (int q = p + 1; q <= 24; q++) {
                if (k == 2 && q == 24 || k == 1 && q > p + 1) {
                    continue;
                }
                int count = k == 1 ? led(tune, pitch, verse, p) : led(tune, pitch, verse, p, q);
                if (count > most) {
                    most = count;
                    best = new int[] {p, q};
                }
            }
        }
        return i == -1 ? most : best[i];
    }

    public int taught(int tune, int pitch) {
        try {
            tuned(tune);
            refuseIf(!in(pitch, 0, 5), -6);
        } catch (Refused r) {
            throw less(r, 10);
        }
        int best = -1;
        for (int pupils = 0; pupils < 1 << now.voices.size(); pupils++) {
            int count = Integer.bitCount(pupils);
            if (count > 3 || best >= 0 && count >= Integer.bitCount(best)) {
                continue;
            }
            Church c = now.twin();
            for (Voice v : c.voices) {
                if ((pupils & 1 << v.number) != 0) {
                    v.knows.add(tune);
                }
            }
            if (c.catches(tune, pitch) >= 0) {
                best = pupils;
            }
        }
        return best;
    }

    public int helps(int voice, int tune, int pitch, int verse) {
        try {
            voiced(voice);
            tuned(tune);
            refuseIf(!in(pitch, 0, 5) || !in(verse, 0, 40), -6);
        } catch (Refused r) {
            throw less(r, 100);
        }
        Church without = now.twin();
        without.voices.remove(voice);
        int with = now.right(tune, pitch, verse) & ~(1 << voice);
        return Integer.bitCount(with) - Integer.bitCount(without.right(tune, pitch, verse));
    }

    public int late(int t, int n) {
        refuseIf(!in(t, 0, 99) || !in(n, -1, 9), -6);
        int late = 0;
        for (int verse = 0; verse < t; verse++) {
            late = Math.max(0, late + now.wait - (n == -1 ? 0 : n));
        }
        return late;
    }

    public int ahead(int t, int l) {
        refuseIf(!in(t, 0, 99) || !in(l, 0, 99), -16);
        for (int n = 0; n <= 9; n++) {
            if (late(t, n) <= l) {
                return n;
            }
        }
        return -1;
    }

    public int fits(int s, int n, int pitch) {
        int[] counts = first(s, n);
        refuseIf(!in(n, 1, 40) || !in(pitch, 0, 5), -6);
        int bits = 0;
        for (int t = 0; t < now.highs.size(); t++) {
            bits |= now.heardAs(t, pitch, counts) ? 1 << t : 0;
        }
        return bits;
    }

    public int changed(int s, int n, int tune, int pitch) {
        int[] counts;
        try {
            shelf(s);
            tuned(tune);
            counts = first(s, n);
            refuseIf(!in(n, 1, 40) || !in(pitch, 0, 5), -6);
        } catch (Refused r) {
            throw less(r, 10);
        }
        for (int i = 0; i < now.voices.size(); i++) {
            for (int j = i + 1; j < now.voices.size(); j++) {
                Church c = now.twin();
                c.voices.get(i).place = now.voices.get(j).place;
                c.voices.get(j).place = now.voices.get(i).place;
                if (c.heardAs(tune, pitch, counts)) {
                    return 20 * i + j;
                }
            }
        }
        return -1;
    }

    public int known(int voice, int what) {
        if (what == 0) {
            voiced(voice);
            return now.voices.get(voice).knows.size();
        }
        refuseIf(!in(what, 1, 3) || what == 3 && now.voices.isEmpty(), -5);
        if (what == 1) {
            return now.known();
        }
        if (what == 2) {
            TreeSet<Integer> all = new TreeSet<>();
            for (int t = 0; t < now.highs.size(); t++) {
                all.add(t);
            }
            now.voices.forEach(v -> all.retainAll(v.knows));
            return asBits(all);
        }
        int best = -1;
        long most = -1;
        for (Voice v : now.voices) {
            long others = now.voices.stream().filter(w -> w != v && w.knows.equals(v.knows)).count();
            if (others > most) {
                most = others;
                best = v.number;
            }
        }
        return best;
    }

    private int wrongOf(int[] service) {
        for (int i = 0; i < service.length; i++) {
            boolean may = false;
            for (int t = 0; t < now.highs.size(); t++) {
                for (int p = 0; p < 6; p++) {
                    int verses = service[i] - 100 * t - 10 * p;
                    may |= in(verses, 1, 9);
                }
            }
            if (!may) {
                return i;
            }
        }
        return -1;
    }

    public int judge(int s, int n) {
        int[] service;
        try {
            service = first(s, n);
            refuseIf(n > 40, -6);
        } catch (Refused r) {
            throw less(r, 10);
        }
        return wrongOf(service);
    }

    public int behind(int s, int n, int what) {
        int[] service = first(s, n);
        refuseIf(!in(what, 0, 2), -5);
        refuseIf(n > 40 || wrongOf(service) >= 0, -6);
        Church c = now.twin();
        int right = 0;
        int caught = 0;
        for (int told : service) {
            int count = c.hymn(told / 100, told % 100 / 10, told % 10);
            right += count;
            if (count * 2 >= c.voices.size()) {
                caught++;
            }
        }
        return new int[] {c.known(), right, caught}[what];
    }

    public int done(int s, int n) {
        int[] service = first(s, n);
        refuseIf(n > 40 || wrongOf(service) >= 0, -6);
        for (int told : service) {
            now.hymn(told / 100, told % 100 / 10, told % 10);
        }
        return now.hymns;
    }

    public int hymn(int tune, int pitch, int n) {
        tuned(tune);
        refuseIf(!in(pitch, 0, 5) || !in(n, 1, 9), -6);
        return now.hymn(tune, pitch, n);
    }

    public int years(int n) {
        refuseIf(now.highs.isEmpty(), -5);
        refuseIf(!in(n, 1, 60), -6);
        for (int i = 0; i < n; i++) {
            int tune = now.draw(now.highs.size());
            int pitch = now.draw(6);
            now.hymn(tune, pitch, 1 + now.draw(9));
        }
        return now.known();
    }

    public int seed(int v) {
        int was = now.seed;
        now.seed = v;
        return was;
    }

    public int act(int voice, int move, int x) {
        trace = new ArrayList<>();
        if (!in(voice, 0, now.voices.size() - 1) || !in(move, 0, 2)) {
            return 0;
        }
        Voice v = now.voices.get(voice);
        v.trace = trace;
        return move == 0 ? v.breathes(x) : move == 1 ? v.sings(x) : v.sits(x);
    }

    public int trace(int i) {
        return in(i, 0, Math.min(20, trace.size()) - 1) ? trace.get(i) : -1;
    }

    public int image() {
        image = now.twin();
        return now.voices.size();
    }

    public int restore() {
        refuseIf(image == null, -6);
        now = image.twin();
        for (int s = 0; s < 8; s++) {
            if (shelves[s] instanceof Integer && (Integer) shelves[s] >= now.voices.size()) {
                shelves[s] = null;
            }
        }
        return now.voices.size();
    }

    public int status(int what) {
        switch (what) {
            case 0: return now.voices.size();
            case 1: return now.highs.size();
            case 2: return now.hymns;
            case 3: return now.wait;
            case 4: return now.known();
            case 5: return 24 - now.voices.size();
            case 6: return now.seed;
            case 7: return trace.size();
            default: return in(what, 11, 17) ? refusals[what - 10] : -1;
        }
    }
}

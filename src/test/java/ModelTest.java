import java.lang.reflect.InvocationTargetException;
import java.lang.reflect.Method;
import java.lang.reflect.Modifier;
import java.util.ArrayList;
import java.util.HashMap;
import java.util.List;
import java.util.Map;
import java.util.Random;

/** Long runs of calls, drawn from fixed seeds, on the class and on the model: all answers must agree. */
public final class ModelTest {
    private static final int MOST_CALLS = 512;
    private static final Checks CHECKS = new Checks();

    /** What each parameter of a call is, by a sign: see number(). */
    private static final String[] CALLS = {
        "row s,o,n", "set s,e,l", "copy s,s,e,e,n", "element s,e", "show s,v", "holds s", "says s,k", "tune h",
        "voice k,a,p,b,h", "knows v,t,z", "move v,p", "ask a", "voiceOf v,w", "highOf t", "church s", "fault",
        "sung t,i,r,w", "needs v,t", "verse t,i,y", "best i,r", "pitch t,r", "two r", "leaders t,i,r,2,1",
        "taught t,i", "helps v,t,i,r", "late 9,a", "ahead 9,9", "fits s,m,i", "changed s,m,t,i", "known v,w",
        "judge s,m", "behind s,m,w", "done s,m", "hymn t,i,a", "years m", "seed x", "act v,w,x", "trace e",
        "image", "restore", "status u",
    };
    // dear calls of the model are made less often
    private static final String DEAR = "leaders taught changed";

    private final Random random;
    private final WhichOneAllKnow program = new WhichOneAllKnow();
    private final Model model = new Model();
    private final List<String> run = new ArrayList<>();
    private final Map<String, Method> programs = methods(WhichOneAllKnow.class);
    private final Map<String, Method> models = methods(Model.class);
    private boolean differs = false;

    private ModelTest(long seed) {
        random = new Random(seed);
    }

    public static void main(String[] args) {
        for (int group = 0; group < 8; group++) {
            int first = 100 * group;
            CHECKS.test("runs " + first + " to " + (first + 99) + " as the model answers", () -> {
                for (int seed = first; seed < first + 100; seed++) {
                    new ModelTest(seed).play();
                }
            });
        }
        CHECKS.close();
    }

    private static Map<String, Method> methods(Class<?> of) {
        Map<String, Method> found = new HashMap<>();
        for (Method m : of.getDeclaredMethods()) {
            if (Modifier.isPublic(m.getModifiers())) {
                m.setAccessible(true);
                found.put(m.getName(), m);
            }
        }
        return found;
    }

    private void play() {
        if (random.nextInt(8) > 0) {
            furnish();
        }
        while (run.size() < MOST_CALLS - 170 && !differs) {
            int what = random.nextInt(30);
            if (what == 0) {
                tellText();
            } else if (what == 1) {
                tellCounts();
            } else if (what == 2) {
                tellService();
            } else if (what == 3) {
                showOne();
            } else {
                anyCall();
            }
        }
        lookAround();
    }

    /** What can be seen at the end of a run, so that nothing was changed that no answer told of. */
    private void lookAround() {
        for (int what = 0; what <= 17; what++) {
            call("status", what);
        }
        for (int v = 0; v < model.status(0); v++) {
            for (int what = 0; what <= 5; what++) {
                call("voiceOf", v, what);
            }
        }
        for (int t = 0; t < model.status(1); t++) {
            call("highOf", t);
        }
        for (int s = 0; s < 8; s++) {
            call("holds", s);
            for (int i = 0; i < 5; i++) {
                call("element", s, i);
            }
        }
        call("fault");
        call("trace", 0);
    }

    private void furnish() {
        int tunes = 1 + random.nextInt(4);
        for (int t = 0; t < tunes; t++) {
            call("tune", random.nextInt(6));
        }
        int voices = 1 + random.nextInt(12);
        int places = random.nextBoolean() ? 24 : 14;
        for (int v = 0; v < voices; v++) {
            int top = random.nextInt(3) == 0 ? random.nextInt(12) : 11;
            call("voice", random.nextInt(7), random.nextInt(3), random.nextInt(places), random.nextInt(5), top);
        }
        for (int i = 0; i < 2 * voices; i++) {
            call("knows", random.nextInt(voices), random.nextInt(tunes), true);
        }
    }

    private void anyCall() {
        String form = CALLS[random.nextInt(CALLS.length)];
        String name = form.split(" ")[0];
        if (DEAR.contains(name) && random.nextInt(4) > 0) {
            return;
        }
        String[] signs = form.contains(" ") ? form.split(" ")[1].split(",") : new String[0];
        Object[] numbers = new Object[signs.length];
        for (int i = 0; i < signs.length; i++) {
            numbers[i] = number(signs[i].charAt(0));
        }
        call(name, numbers);
    }

    /** Mostly a number that may be, or just beyond; sometimes any. */
    private Object number(char sign) {
        if (sign == 'z') {
            return random.nextBoolean();
        }
        if (sign == 'l') {
            return random.nextBoolean() ? random.nextLong() : (long) random.nextInt(200);
        }
        if (sign == 'x' || random.nextInt(60) == 0) {
            int[] any = {random.nextInt(), Integer.MIN_VALUE, Integer.MAX_VALUE, random.nextInt(400) - 200};
            return any[random.nextInt(any.length)];
        }
        int voices = model.status(0);
        int tunes = model.status(1);
        switch (sign) {
            case 's': return near(0, 7);
            case 'o': return near(0, 3);
            case 'n': return random.nextInt(5) == 0 ? near(0, 160) : near(0, 6);
            case 'e': return near(0, 6);
            case 'v': return near(0, voices - 1);
            case 't': return near(0, tunes - 1);
            case 'k': return near(0, 6);
            case 'h': return near(0, 11);
            case 'a': return near(0, 9);
            case 'p': return near(0, 23);
            case 'b': return near(0, 5);
            case 'w': return near(0, 3);
            case 'y': return near(0, 1);
            case 'i': return near(0, 5);
            case 'r': return random.nextInt(4) == 0 ? near(0, 40) : near(0, 5);
            case 'm': return random.nextInt(8) == 0 ? near(0, 61) : near(0, 5);
            case '1': return near(-1, 1);
            case '2': return near(1, 2);
            case '9': return near(0, 99);
            default: return near(0, 17);
        }
    }

    private int near(int least, int most) {
        switch (random.nextInt(30)) {
            case 0: return least - 1;
            case 1: return most + 1;
            default: return least + random.nextInt(Math.max(0, most - least) + 1);
        }
    }

    /** A text of ITEMS, often with one sign changed, left out or put in, read at once. */
    private void tellText() {
        StringBuilder text = new StringBuilder();
        int items = 1 + random.nextInt(4);
        for (int i = 0; i < items; i++) {
            String[] forms = {"tune h", "voice k a p b h", "knows v t", "moves v p", "wait a"};
            String[] words = forms[random.nextInt(forms.length)].split(" ");
            text.append(i == 0 ? "" : ";").append(words[0]);
            for (int w = 1; w < words.length; w++) {
                int number = (Integer) number(words[w].charAt(0));
                text.append(random.nextInt(6) == 0 ? " 0" : " ").append(Math.abs(number % 100));
            }
        }
        String signs = "tvkmwaeiounscl 0123456789;; ";
        if (random.nextInt(3) == 0) {
            int at = random.nextInt(text.length());
            char sign = signs.charAt(random.nextInt(signs.length()));
            switch (random.nextInt(4)) {
                case 0: text.setCharAt(at, sign); break;
                case 1: text.deleteCharAt(at); break;
                case 2: text.insert(at, sign); break;
                default: text.setLength(at); break;
            }
        }
        int s = random.nextInt(8);
        int sort = random.nextInt(4);
        call("row", s, sort, text.length());
        for (int i = 0; i < text.length(); i++) {
            long above = sort == 3 && random.nextInt(5) == 0 ? (long) random.nextInt() << 32 : 0;
            call("set", s, i, above | text.charAt(i));
        }
        call("church", s);
        call("fault");
    }

    /** Counts that are often those of a TUNE, looked for at once. */
    private void tellCounts() {
        int tunes = model.status(1);
        if (tunes == 0) {
            return;
        }
        int tune = random.nextInt(tunes);
        int pitch = random.nextInt(3);
        int n = 1 + random.nextInt(6);
        int s = random.nextInt(8);
        call("row", s, 1 + random.nextInt(3), n);
        for (int i = 0; i < n; i++) {
            int heard = model.sung(tune, pitch, i, 0) | model.sung(tune, pitch, i, 1);
            call("set", s, i, (long) Integer.bitCount(heard) + (random.nextInt(12) == 0 ? 1 : 0));
        }
        call("fits", s, n, pitch);
        int voices = model.status(0);
        if (voices > 1) {
            int one = model.voiceOf(random.nextInt(voices), 2);
            for (int p = 0; p < 24 && random.nextBoolean(); p++) {
                call("move", random.nextInt(voices), (one + p) % 24);
            }
        }
        call("changed", s, n, tune, pitch);
    }

    private void tellService() {
        int n = 1 + random.nextInt(5);
        int s = random.nextInt(8);
        call("row", s, 1 + random.nextInt(3), n);
        for (int i = 0; i < n; i++) {
            int tune = Math.max(0, (Integer) near(0, model.status(1) - 1));
            long told = 100 * tune + 10 * near(0, 5) + near(1, 9);
            call("set", s, i, random.nextInt(30) == 0 ? -told : told);
        }
        call("judge", s, n);
        for (int what = 0; what <= 2; what++) {
            call("behind", s, n, what);
        }
        if (random.nextBoolean()) {
            call("done", s, n);
        }
    }

    private void showOne() {
        int s = random.nextInt(8);
        call("show", s, number('v'));
        for (int kind = 0; kind <= 6; kind++) {
            call("says", s, kind);
        }
    }

    private void call(String name, Object... numbers) {
        if (differs || run.size() >= MOST_CALLS) {
            return;
        }
        StringBuilder told = new StringBuilder(name).append('(');
        for (int i = 0; i < numbers.length; i++) {
            told.append(i == 0 ? "" : ", ").append(numbers[i]);
        }
        told.append(')');
        long got = answer(programs, program, name, numbers);
        long due = answer(models, model, name, numbers);
        run.add(told + " -> " + got);
        differs = got != due;
        if (differs) {
            CHECKS.due(told + " at the end of " + String.join("; ", run), got, due);
        }
    }

    private long answer(Map<String, Method> methods, Object on, String name, Object[] numbers) {
        try {
            return ((Number) methods.get(name).invoke(on, numbers)).longValue();
        } catch (InvocationTargetException thrown) {
            if (thrown.getCause() instanceof Model.Refused) {
                int number = ((Model.Refused) thrown.getCause()).number;
                model.refusals[-number % 10]++;
                return number;
            }
            throw new IllegalStateException(name + " threw " + thrown.getCause(), thrown.getCause());
        } catch (IllegalAccessException thrown) {
            throw new IllegalStateException(thrown);
        }
    }
}

import java.io.IOException;
import java.io.UncheckedIOException;
import java.lang.management.ManagementFactory;
import java.lang.reflect.Field;
import java.lang.reflect.Member;
import java.lang.reflect.Method;
import java.lang.reflect.Modifier;
import java.nio.file.Files;
import java.nio.file.Path;
import java.util.ArrayList;
import java.util.List;
import java.util.TreeSet;
import java.util.regex.Matcher;
import java.util.regex.Pattern;

/** The face is the document's, the source keeps to what of ../shared/LANGUAGE.md can be looked up simply. */
public final class LanguageTest {
    private static final Class<?> PROGRAM = WhichOneAllKnow.class;
    private static final Path SOURCE = Path.of("src/main/java/WhichOneAllKnow.java");
    private static final Path DOCUMENT = Path.of("../shared/DOC.md");
    private static final Checks CHECKS = new Checks();

    public static void main(String[] args) {
        CHECKS.test("the face is the document's", LanguageTest::face);
        CHECKS.test("all else is private, by other names", LanguageTest::hidden);
        CHECKS.test("no words that the language leaves out", LanguageTest::words);
        CHECKS.test("short methods, few parameters, few fields", LanguageTest::sizes);
        CHECKS.test("no call makes an object", LanguageTest::room);
        CHECKS.close();
    }

    private static String read(Path path) {
        try {
            return Files.readString(path);
        } catch (IOException thrown) {
            throw new UncheckedIOException(thrown);
        }
    }

    private static void face() {
        TreeSet<String> due = new TreeSet<>();
        Matcher told = Pattern.compile("public (int|long) (\\w+)\\((.*)\\);").matcher(read(DOCUMENT));
        while (told.find()) {
            String types = told.group(3).replaceAll("(\\w+) \\w+", "$1").replace(" ", "");
            due.add(told.group(1) + " " + told.group(2) + "(" + types + ")");
        }
        TreeSet<String> found = new TreeSet<>();
        for (Method m : PROGRAM.getDeclaredMethods()) {
            if (Modifier.isPublic(m.getModifiers())) {
                List<String> types = new ArrayList<>();
                for (Class<?> type : m.getParameterTypes()) {
                    types.add(type.getName());
                }
                found.add(m.getReturnType() + " " + m.getName() + "(" + String.join(",", types) + ")");
            }
        }
        if (due.size() != 41 || !due.equals(found)) {
            CHECKS.fault("found " + found + "\n    due " + due);
        }
        CHECKS.due("public fields", PROGRAM.getFields().length, 1);
        CHECKS.due("public constructors", PROGRAM.getConstructors().length, 1);
        CHECKS.due("final", Modifier.isFinal(PROGRAM.getModifiers()) ? 1 : 0, 1);
    }

    private static void hidden() {
        List<Member> members = new ArrayList<>(List.of(PROGRAM.getDeclaredMethods()));
        members.addAll(List.of(PROGRAM.getDeclaredFields()));
        TreeSet<String> face = new TreeSet<>();
        for (Member m : members) {
            if (Modifier.isPublic(m.getModifiers())) {
                face.add(m.getName());
            } else if (!Modifier.isPrivate(m.getModifiers())) {
                CHECKS.fault(m + " is neither of the face nor private");
            }
        }
        List<Method> others = new ArrayList<>();
        for (Class<?> inside : PROGRAM.getDeclaredClasses()) {
            others.addAll(List.of(inside.getDeclaredMethods()));
            if (!Modifier.isStatic(inside.getModifiers()) || Modifier.isPublic(inside.getModifiers())) {
                CHECKS.fault(inside + " is not static, or public");
            }
        }
        for (Method m : PROGRAM.getDeclaredMethods()) {
            if (!Modifier.isPublic(m.getModifiers())) {
                others.add(m);
            }
        }
        for (Method m : others) {
            if (face.contains(m.getName())) {
                CHECKS.fault(m + " bears the name of a public one");
            }
        }
        for (Field f : PROGRAM.getDeclaredFields()) {
            if (Modifier.isStatic(f.getModifiers()) && !Modifier.isFinal(f.getModifiers())) {
                CHECKS.fault(f + " is static and not final");
            }
        }
    }

    private static void words() {
        String code = read(SOURCE).replaceAll("(?s)/\\*.*?\\*/", "").replaceAll("//.*", "");
        String[] banned = {
            "throw", "throws", "try", "catch", "finally", "synchronized", "assert", "import", "package", "volatile",
            "yield", "equals", "hashCode", "System\\.(?!arraycopy)\\w+", "Thread", "Object", "Exception", "double",
        };
        for (String word : banned) {
            Matcher found = Pattern.compile("\\b" + word + "\\b").matcher(code);
            if (found.find()) {
                CHECKS.fault("the source has " + found.group());
            }
        }
        for (String sign : new String[] {"->", "::", "\" +", "+ \"", "%n"}) {
            if (code.contains(sign)) {
                CHECKS.fault("the source has " + sign);
            }
        }
        for (int i = 0; i < code.length(); i++) {
            if (code.charAt(i) > 126) {
                CHECKS.fault("the source has the sign " + (int) code.charAt(i));
            }
        }
    }

    private static void sizes() {
        List<Class<?>> classes = new ArrayList<>(List.of(PROGRAM.getDeclaredClasses()));
        classes.add(PROGRAM);
        if (classes.size() > 12) {
            CHECKS.fault(classes.size() + " classes");
        }
        for (Class<?> c : classes) {
            int fields = 0;
            for (Field f : c.getDeclaredFields()) {
                fields += Modifier.isStatic(f.getModifiers()) ? 0 : 1;
            }
            if (fields > 20) {
                CHECKS.fault(c + " has " + fields + " fields");
            }
            for (Method m : c.getDeclaredMethods()) {
                if (m.getParameterCount() > 7) {
                    CHECKS.fault(m + " has " + m.getParameterCount() + " parameters");
                }
            }
        }
        int since = 0;
        String[] lines = read(SOURCE).split("\n");
        for (int i = 0; i < lines.length; i++) {
            if (lines[i].matches(" {4}(    )?(public|private|static|int|void|boolean|long|\\w).*\\) \\{")) {
                since = i;
            }
            if (lines[i].matches(" {4}(    )?}") && i - since > 60) {
                CHECKS.fault("a method of " + (i - since) + " lines ends at line " + (i + 1));
            }
        }
    }

    /** All calls of a run live in one room: what each call would make, it would make some 512 times. */
    private static void room() {
        WhichOneAllKnow x = State.read("tune 0;tune 3;voice 1 0 0 0 11;voice 0 1 1 3 11;voice 6 1 2 1 11;"
                + "voice 4 1 3 2 11;voice 3 0 10 0 6;voice 5 1 9 0 11;knows 0 0;knows 2 0;knows 3 1");
        callAll(x);
        com.sun.management.ThreadMXBean threads =
                (com.sun.management.ThreadMXBean) ManagementFactory.getThreadMXBean();
        long before = threads.getCurrentThreadAllocatedBytes();
        for (int time = 0; time < 40; time++) {
            callAll(x);
        }
        long made = threads.getCurrentThreadAllocatedBytes() - before;
        if (made > 20000) {
            CHECKS.fault("40 times all calls made " + made + " bytes");
        }
    }

    private static void callAll(WhichOneAllKnow x) {
        x.image();
        x.row(0, 0, 6);
        x.row(1, 0, 2);
        String wait = "wait 3";
        for (int i = 0; i < 6; i++) {
            x.set(0, i, wait.charAt(i));
        }
        x.church(0);
        x.church(1);
        x.copy(0, 1, 0, 0, 2);
        x.set(1, 0, 13);
        x.set(1, 1, 2);
        x.show(2, 0);
        x.says(2, 0);
        x.tune(2);
        x.voice(0, 0, 20, 0, 0);
        x.knows(0, 1, true);
        x.move(0, 23);
        x.ask(1);
        x.sung(0, 0, 9, 3);
        x.needs(0, 0);
        x.verse(0, 0, 0);
        x.verse(0, 0, 1);
        x.best(0, 4);
        x.pitch(0, 4);
        x.two(4);
        x.leaders(0, 0, 5, 2, 1);
        x.taught(1, 0);
        x.helps(0, 0, 0, 3);
        x.late(3, 1);
        x.ahead(9, 3);
        x.fits(1, 2, 0);
        x.changed(1, 2, 0, 0);
        x.known(0, 3);
        x.judge(1, 2);
        x.behind(1, 2, 0);
        x.done(1, 2);
        x.hymn(0, 0, 4);
        x.years(9);
        x.seed(1);
        x.act(2, 2, 5);
        x.restore();
    }
}

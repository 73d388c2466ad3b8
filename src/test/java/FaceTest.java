import java.io.IOException;
import java.lang.management.ManagementFactory;
import java.lang.reflect.Constructor;
import java.lang.reflect.Field;
import java.lang.reflect.Method;
import java.lang.reflect.Modifier;
import java.nio.file.Files;
import java.nio.file.Path;
import java.util.Set;
import java.util.TreeSet;
import java.util.regex.Matcher;
import java.util.regex.Pattern;

/** The public face, the rules of LANGUAGE.md that can be seen from outside or in the text, and the room that calls take. */
public final class FaceTest {
    private static final Set<String> FACE = Set.of(
            "event/6", "drop/0", "bound/2", "pin/2", "states/1", "state/3", "step/3", "price/0", "way/1", "stuck/0",
            "ways/1", "told/1", "about/2");
    private static int wrong = 0;

    private static void hold(boolean so, String what) {
        if (!so) {
            wrong++;
            System.out.println("does not hold: " + what);
        }
    }

    public static void main(String[] args) throws IOException {
        face();
        classesInside();
        text(Files.readString(Path.of("src/main/java/PlaySpans.java")));
        room();
        System.out.println(wrong == 0 ? "face, rules and room hold" : wrong + " do not hold");
        if (wrong != 0) {
            System.exit(1);
        }
    }

    private static void face() {
        Class<?> c = PlaySpans.class;
        hold(Modifier.isPublic(c.getModifiers()) && Modifier.isFinal(c.getModifiers()), "public final class");
        Set<String> shown = new TreeSet<>();
        for (Method m : c.getDeclaredMethods()) {
            if (!Modifier.isPrivate(m.getModifiers())) {
                hold(Modifier.isPublic(m.getModifiers()) && m.getReturnType() == int.class, "public int " + m);
                shown.add(m.getName() + "/" + m.getParameterCount());
            }
        }
        hold(shown.equals(new TreeSet<>(FACE)), "the methods of the document and no other: " + shown);
        Constructor<?>[] made = c.getDeclaredConstructors();
        hold(made.length == 1 && Modifier.isPublic(made[0].getModifiers()) && made[0].getParameterCount() == 1,
                "one public constructor");
        Set<String> constants = new TreeSet<>();
        for (Field f : c.getDeclaredFields()) {
            if (!Modifier.isPrivate(f.getModifiers())) {
                constants.add(f.getName());
            }
        }
        hold(constants.equals(new TreeSet<>(Set.of("BAD", "NONE", "NOT", "FULL"))), "the constants: " + constants);
    }

    private static void classesInside() {
        Class<?>[] inside = PlaySpans.class.getDeclaredClasses();
        hold(inside.length < 12, "at most twelve classes");
        for (Class<?> c : inside) {
            hold(Modifier.isStatic(c.getModifiers()) && !Modifier.isPublic(c.getModifiers()), "private static " + c);
            for (Method m : c.getDeclaredMethods()) {
                hold(FACE.stream().noneMatch(f -> f.startsWith(m.getName() + "/")), "a name of the face: " + m);
                hold(m.getParameterCount() <= 7, "seven parameters: " + m);
            }
            int fields = 0;
            for (Field f : c.getDeclaredFields()) {
                hold(!Modifier.isStatic(f.getModifiers()) || Modifier.isFinal(f.getModifiers()), "static, final: " + f);
                fields += Modifier.isStatic(f.getModifiers()) ? 0 : 1;
            }
            hold(fields <= 20, "twenty fields: " + c);
        }
    }

    private static void text(String source) {
        String code = source.replaceAll("(?s)/\\*.*?\\*/", "").replaceAll("//[^\n]*", "");
        String[] never = {"\\bthrow\\b", "\\btry\\b", "\\bcatch\\b", "\\bfinally\\b", "\\bsynchronized\\b",
            "\\bassert\\b", "->", "::", "@", "Exact\\(", "\\bpackage\\b", "\\bprotected\\b",
            "System\\.(?!arraycopy)", "\\bnative\\b", "\\bstatic\\s*\\{", "[^\\x00-\\x7f]"};
        for (String word : never) {
            Matcher found = Pattern.compile(word).matcher(code);
            hold(!found.find(), "without " + word);
        }
        Matcher imports = Pattern.compile("import ([^;]+);").matcher(code);
        while (imports.find()) {
            hold(imports.group(1).equals("java.util.Arrays"), "import of " + imports.group(1));
        }
        int begin = 0;
        String[] lines = source.split("\n");
        for (int n = 0; n < lines.length; n++) {
            if (lines[n].matches("( {4}| {8})\\w.*\\) \\{")) {
                begin = n;
            }
            if (lines[n].matches("( {4}| {8})\\}")) {
                hold(n - begin <= 60 || lines[n].startsWith("    }"), "short methods: line " + (begin + 1));
            }
        }
    }

    /** An object's whole life, with the dearest calls, may take a small part of the room of 7.3 million elements. */
    private static void room() {
        if (!(ManagementFactory.getThreadMXBean() instanceof com.sun.management.ThreadMXBean bean)) {
            return;
        }
        long id = Thread.currentThread().getId();
        for (int kind = 0; kind < 5; kind++) {
            live(kind);
            long before = bean.getThreadAllocatedBytes(id);
            live(kind);
            long bytes = bean.getThreadAllocatedBytes(id) - before;
            hold(bytes < 300000, "512 calls on instrument " + kind + " take " + bytes + " bytes");
        }
    }

    private static void live(int kind) {
        PlaySpans x = new PlaySpans(kind);
        int calls = 0;
        for (int i = 0; i < 40; i++, calls++) {
            x.event(0, 50 * i, 20, 65, -1, -1);
        }
        for (; calls + 8 <= 512; calls += 8) {
            x.bound(0, calls % 5);
            x.pin(calls % 40, -1);
            x.price();
            x.way(calls % 40);
            x.stuck();
            x.ways(300);
            x.step(calls % 39, 0, 0);
            x.state(calls % 40, 0, 2);
        }
    }
}

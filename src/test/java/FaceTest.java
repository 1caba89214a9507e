import java.lang.management.ManagementFactory;
import java.lang.reflect.Constructor;
import java.lang.reflect.Field;
import java.lang.reflect.Method;
import java.lang.reflect.Modifier;
import java.nio.charset.StandardCharsets;
import java.nio.file.Files;
import java.nio.file.Path;
import java.util.ArrayList;
import java.util.Arrays;
import java.util.List;
import java.util.TreeSet;
import java.util.regex.Matcher;
import java.util.regex.Pattern;

/** The public face, the rules of the language that a scan can see, and how much a run makes. */
public final class FaceTest {
    private static final String FACE = "type(int,int) wipe(int) undo(int) fault(int) bottle(int,int) note(int) burst(int)"
        + " hot(int) act(int,int,int,int) back(int) read(int) holds(int,int,int) who(int,int) whole(int,int) has(int,int)"
        + " heard(int,int) spilled(int,int) leaked(int) lost(int) works(int) sing(int,int) corks(int,int) most(int,int)"
        + " weighed(int,int,int) forget() hid() swapped(int) weigh(int) heat(int,int,int,int):long market(int,int,int)"
        + " sheet(int,int,int) lose(int) put(int,int,int,int) get(int,int,int) copy(int,int,int,int,int) write(int,int)"
        + " count(int) digest():long";

    private static int wrong = 0;

    public static void main(String[] args) throws Exception {
        Watch.begin();
        face();
        insides();
        source();
        room();
        System.out.println(wrong == 0 ? "the face is as due" : wrong + " things are not as due");
        System.exit(wrong == 0 ? 0 : 1);
    }

    private static void due(String what, Object want, Object got) {
        if (!want.equals(got)) {
            wrong++;
            System.out.println(what + " is " + got + ", due is " + want);
        }
    }

    private static void face() throws Exception {
        due("class is final", true, Modifier.isFinal(BreathSold.class.getModifiers()));
        TreeSet<String> got = new TreeSet<>();
        TreeSet<String> names = new TreeSet<>();
        for (Method m : BreathSold.class.getDeclaredMethods()) {
            if (Modifier.isPublic(m.getModifiers())) {
                List<String> types = new ArrayList<>();
                for (Class<?> c : m.getParameterTypes()) {
                    types.add(c.getName());
                }
                String answer = m.getReturnType() == int.class ? "" : ":" + m.getReturnType().getName();
                got.add(m.getName() + "(" + String.join(",", types) + ")" + answer);
                names.add(m.getName());
            }
        }
        due("face", new TreeSet<>(Arrays.asList(FACE.split(" "))), got);
        for (Method m : BreathSold.class.getDeclaredMethods()) {
            if (!m.isSynthetic() && !Modifier.isPublic(m.getModifiers())) {
                due(m.getName() + " is private", true, Modifier.isPrivate(m.getModifiers()));
                due(m.getName() + " has a public name", false, names.contains(m.getName()));
            }
        }
        TreeSet<String> constants = new TreeSet<>();
        for (Field f : BreathSold.class.getDeclaredFields()) {
            if (!Modifier.isPrivate(f.getModifiers()) && !f.isSynthetic()) {
                constants.add(f.getName() + "=" + f.getInt(null));
            }
        }
        due("constants", new TreeSet<>(List.of("NONE=-1", "BAD=-2", "NOT=-3", "FULL=-4")), constants);
        Constructor<?>[] made = BreathSold.class.getDeclaredConstructors();
        due("constructors", 1, made.length);
        due("constructor is public", true, Modifier.isPublic(made[0].getModifiers()));
    }

    private static void insides() {
        List<Class<?>> all = new ArrayList<>(List.of(BreathSold.class.getDeclaredClasses()));
        due("at most twelve classes", true, all.size() < 12);
        for (Class<?> c : all) {
            due(c + " is static", true, Modifier.isStatic(c.getModifiers()));
            due(c + " is private", true, Modifier.isPrivate(c.getModifiers()));
        }
        all.add(BreathSold.class);
        for (Class<?> c : all) {
            int fields = 0;
            for (Field f : c.getDeclaredFields()) {
                boolean isStatic = Modifier.isStatic(f.getModifiers());
                fields += isStatic ? 0 : 1;
                due(f + " is final if static", true, !isStatic || Modifier.isFinal(f.getModifiers()));
            }
            due(c + " has at most twenty fields", true, fields <= 20);
            for (Method m : c.getDeclaredMethods()) {
                due(m + " takes at most seven", true, m.getParameterCount() <= 7);
            }
        }
    }

    private static void source() throws Exception {
        String text = Files.readString(Path.of("src/main/java/BreathSold.java"), StandardCharsets.ISO_8859_1);
        due("plain signs alone", true, text.chars().allMatch(c -> c == '\n' || c >= 32 && c < 127));
        String code = text.replaceAll("(?s)/\\*.*?\\*/", "").replaceAll("//[^\n]*", "");
        Matcher word = Pattern.compile("\\b(throw|throws|try|catch|finally|synchronized|assert|goto|Object|Random|Thread|"
            + "Exception|hashCode|toString|currentTimeMillis|nanoTime|package)\\b|->|::|Exact\\(|static \\{|@").matcher(code);
        while (word.find()) {
            due("a word outside the language", "none", word.group());
        }
        Matcher imported = Pattern.compile("import ([^;]*);").matcher(code);
        while (imported.find()) {
            due("import", "java.util.Arrays", imported.group(1));
        }
        int began = 0;
        String[] lines = text.split("\n");
        for (int i = 0; i < lines.length; i++) {
            if (lines[i].matches(" {4,8}(public|private|static|int|long|void|boolean|[A-Z]\\w*)[^=;]*\\) \\{")) {
                began = i;
            } else if (lines[i].matches(" {4,8}\\}") && i - began > 60) {
                due("lines of the method at " + (began + 1), "at most 60", i - began + 1);
            }
        }
    }

    /** A run's calls make nothing at all: every row stands from the constructor on. */
    private static void room() {
        com.sun.management.ThreadMXBean meter = (com.sun.management.ThreadMXBean) ManagementFactory.getThreadMXBean();
        long thread = Thread.currentThread().getId();
        busyRun(new BreathSold());
        meter.getThreadAllocatedBytes(thread);
        long start = meter.getThreadAllocatedBytes(thread);
        BreathSold x = new BreathSold();
        long made = meter.getThreadAllocatedBytes(thread);
        busyRun(x);
        long end = meter.getThreadAllocatedBytes(thread);
        due("an object is small", true, made - start < 20000);
        due("calls make nothing", true, end - made < 2000);
    }

    private static void busyRun(BreathSold x) {
        byte[] bottles = "a990s;b850s;c774n;d603s;e550n;f439s;g310n;h128s".getBytes(StandardCharsets.US_ASCII);
        byte[] song = "hgfedcba".getBytes(StandardCharsets.US_ASCII);
        for (byte b : bottles) {
            x.type(0, b);
        }
        for (byte b : song) {
            x.type(1, b);
        }
        for (int a = 0; a < 16; a++) {
            x.act(a, a % 4, a % 8, a % 4 == 1 ? (a + 3) % 8 : 0);
        }
        for (int i = 0; i < 8; i++) {
            x.hot(3 * i);
            x.weighed(0, i, 10 * i);
        }
        for (int i = 0; i < 50; i++) {
            x.sheet(i % 4, i % 3, 60);
            x.write(i % 8, i % 4);
            x.read(i % 4);
            x.corks(39, i % 3);
            x.sing(i % 40, i % 8);
            x.heat(5, i % 8, 9, 0);
            x.market(i, 39, i % 8);
        }
        x.digest();
    }
}

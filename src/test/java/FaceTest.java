import java.lang.management.ManagementFactory;
import java.lang.reflect.Constructor;
import java.lang.reflect.Field;
import java.lang.reflect.Member;
import java.lang.reflect.Method;
import java.lang.reflect.Modifier;
import java.nio.file.Files;
import java.nio.file.Path;
import java.util.Arrays;
import java.util.Set;
import java.util.TreeSet;
import java.util.regex.Matcher;
import java.util.regex.Pattern;

/** The public face, the rules of the language that can be looked for, and what calls make. */
public final class FaceTest {
    private static final Check CHECK = new Check("FaceTest");
    private static final Set<String> FACE = new TreeSet<>(Arrays.asList(
            "write(int)", "wipe()", "fault()", "lay()", "plug(int,int)", "mute(int,int,int)",
            "tell(int,int,int,int)", "set(int,int)", "tick(int)", "undo()", "link(int,int,int)",
            "bundle(int,int)", "flow(int,int,int)", "frame(int,int)", "frames(int,int)", "agreed()",
            "settled()", "count(int)"));

    public static void main(String[] args) throws Exception {
        constants();
        members();
        namesAreNotTakenTwice();
        source();
        library();
        staticFields();
        shortMethods();
        callsMakeNothing();
        CHECK.end();
    }

    private static void constants() {
        CHECK.due("BAD", BundledLinks.BAD, -1);
        CHECK.due("NO", BundledLinks.NO, -2);
        CHECK.due("FULL", BundledLinks.FULL, -3);
        CHECK.due("NONE", BundledLinks.NONE, -4);
    }

    private static boolean isSeen(Member member) {
        return !Modifier.isPrivate(member.getModifiers()) && !member.isSynthetic();
    }

    private static void members() {
        Class<?> c = BundledLinks.class;
        CHECK.holds("public and final", Modifier.isPublic(c.getModifiers()) && Modifier.isFinal(c.getModifiers()));
        Set<String> methods = new TreeSet<>();
        for (Method m : c.getDeclaredMethods()) {
            if (isSeen(m)) {
                String args = Arrays.toString(m.getParameterTypes()).replaceAll("[\\[\\] ]", "");
                methods.add(m.getName() + "(" + args + ")");
                CHECK.holds(m + " is public, answers int", Modifier.isPublic(m.getModifiers())
                        && m.getReturnType() == int.class && !Modifier.isStatic(m.getModifiers()));
            }
        }
        CHECK.same("methods", methods.toString(), FACE.toString());
        Set<String> fields = new TreeSet<>();
        for (Field f : c.getDeclaredFields()) {
            if (isSeen(f)) {
                fields.add(f.getName());
                CHECK.holds(f + " is a constant", Modifier.isStatic(f.getModifiers())
                        && Modifier.isFinal(f.getModifiers()) && f.getType() == int.class);
            }
        }
        CHECK.same("constants", fields.toString(), "[BAD, FULL, NO, NONE]");
        Constructor<?>[] made = c.getDeclaredConstructors();
        CHECK.due("constructors", made.length, 1);
        CHECK.due("their parameters", made[0].getParameterCount(), 0);
    }

    private static void namesAreNotTakenTwice() {
        CHECK.holds("twelve classes at most", BundledLinks.class.getDeclaredClasses().length <= 12);
        for (Class<?> inside : BundledLinks.class.getDeclaredClasses()) {
            CHECK.holds(inside + " is static", Modifier.isStatic(inside.getModifiers()));
            CHECK.holds(inside + " has twenty fields at most", inside.getDeclaredFields().length <= 20);
            for (Method m : inside.getDeclaredMethods()) {
                for (String name : FACE) {
                    CHECK.holds(m + " has a name of its own", !name.startsWith(m.getName() + "("));
                }
                CHECK.holds(m + " has seven parameters at most", m.getParameterCount() <= 7);
            }
        }
    }

    /** The class without its comments and texts. */
    private static String code() throws Exception {
        return Files.readString(Path.of("src/main/java/BundledLinks.java"))
                .replaceAll("(?s)/\\*.*?\\*/", "").replaceAll("//[^\n]*", "").replaceAll("\"[^\"]*\"", "\"\"");
    }

    private static void source() throws Exception {
        String code = code();
        Matcher banned = Pattern.compile("\\b(throw|throws|try|catch|finally|synchronized|assert|import|package|"
                + "protected|volatile|transient|native|hashCode|toString|getClass|System|Thread|Object|"
                + "equals|var|yield|Exact)\\b|->|::|@").matcher(code);
        while (banned.find()) {
            CHECK.holds("no '" + banned.group() + "' in the class", false);
        }
        CHECK.holds("plain signs alone", code.chars().allMatch(c -> c == '\n' || (c >= 32 && c < 127)));
    }

    /** Rules 3 and 4: no class but its own, String and Math; of Math no more than min. */
    private static void library() throws Exception {
        String code = code();
        Set<String> names = new TreeSet<>();
        for (Class<?> inside : BundledLinks.class.getDeclaredClasses()) {
            names.add(inside.getSimpleName());
        }
        names.addAll(Arrays.asList("BundledLinks", "String", "Math"));
        Matcher name = Pattern.compile("\\b[A-Z]\\w*[a-z]\\w*\\b").matcher(code);
        while (name.find()) {
            CHECK.holds(name.group() + " is a class that may be used", names.contains(name.group()));
        }
        Matcher math = Pattern.compile("Math\\.(\\w+)").matcher(code);
        while (math.find()) {
            CHECK.same("of Math", math.group(1), "min");
        }
        CHECK.holds("arrays have one dimension", !code.contains("[][]") && !code.contains("] ["));
        CHECK.holds("no casts", !Pattern.compile("\\((int|long|short|byte|char|[A-Z]\\w*)\\) ?\\w").matcher(code).find());
    }

    /** Rule 5: constants alone. */
    private static void staticFields() {
        staticFieldsOf(BundledLinks.class);
        for (Class<?> inside : BundledLinks.class.getDeclaredClasses()) {
            staticFieldsOf(inside);
        }
    }

    private static void staticFieldsOf(Class<?> c) {
        for (Field f : c.getDeclaredFields()) {
            if (Modifier.isStatic(f.getModifiers()) && !f.isSynthetic()) {
                CHECK.holds(f + " is final", Modifier.isFinal(f.getModifiers()));
                CHECK.holds(f + " is a plain constant", f.getType().isPrimitive() || f.getType() == String.class);
            }
        }
    }

    /** Rule 11: a method begins at a line that ends its head with {, and ends at the } of the same depth. */
    private static void shortMethods() throws Exception {
        Pattern head = Pattern.compile("( {4}| {8})(?! )[\\w\\[\\] ]+\\(.*\\) \\{");
        String indent = null;
        String name = "";
        int length = 0;
        int methods = 0;
        for (String line : code().split("\n")) {
            Matcher begins = head.matcher(line);
            length++;
            if (indent == null && begins.matches()) {
                indent = begins.group(1);
                name = line.trim();
                length = 1;
            } else if (indent != null && line.equals(indent + "}")) {
                CHECK.holds(name + " has sixty lines at most", length <= 60);
                indent = null;
                methods++;
            }
        }
        CHECK.holds("methods are found: " + methods, methods > 60);
    }

    /** Rows are made in the constructor and used again: 512 of the dearest calls make no objects. */
    private static void callsMakeNothing() {
        com.sun.management.ThreadMXBean threads =
                (com.sun.management.ThreadMXBean) ManagementFactory.getThreadMXBean();
        if (!threads.isThreadAllocatedMemorySupported() || !threads.isThreadAllocatedMemoryEnabled()) {
            return;
        }
        dearCalls(new BundledLinks());
        long self = threads.getCurrentThreadAllocatedBytes();
        self = threads.getCurrentThreadAllocatedBytes();
        BundledLinks x = new BundledLinks();
        long made = threads.getCurrentThreadAllocatedBytes();
        int sum = dearCalls(x);
        long behind = threads.getCurrentThreadAllocatedBytes();
        CHECK.holds("calls are made", sum != 0);
        CHECK.holds("a new object is small: " + (made - self), made - self < 100_000);
        CHECK.holds("calls make nothing: " + (behind - made), behind - made < 2_000);
    }

    private static int dearCalls(BundledLinks x) {
        int sum = 0;
        for (int i = 0; i < 50; i++) {
            sum += x.tick(3) + x.settled() + x.plug(0, i % 2) + x.undo() + x.write('l') + x.fault();
            sum += x.frame(0, 0) + x.lay() + x.link(0, 0, 3) + x.bundle(0, 2);
        }
        return sum;
    }
}

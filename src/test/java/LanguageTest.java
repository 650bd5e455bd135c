import java.lang.management.ManagementFactory;
import java.lang.reflect.Constructor;
import java.lang.reflect.Field;
import java.lang.reflect.Method;
import java.lang.reflect.Modifier;
import java.nio.charset.StandardCharsets;
import java.nio.file.Files;
import java.nio.file.Path;
import java.util.ArrayList;
import java.util.List;
import java.util.Set;
import java.util.TreeSet;
import java.util.regex.Matcher;
import java.util.regex.Pattern;

/** The face of the document, and those rules of LANGUAGE.md that can be seen from outside. */
public final class LanguageTest {
    private static final Check CHECK = new Check("LanguageTest");
    private static final String[] METHODS = {"int type(int,int)", "int wipe(int)", "int undo(int)", "int fault(int)",
        "int leaf(int,int)", "int rule(int,int)", "int crack(int,int)", "int deed(int,int)", "int back(int)", "int set(int,int)",
        "int lies(int,int,int)", "int reading(int,int)", "int day(int)", "int broken(int)", "int free(int)", "int clash(int)",
        "int pour(int)", "int strain(int,int,int,int)", "int strike(int,int,int)", "int place(int,int)", "int sides(int,int)",
        "int read(int,int)", "int forget()", "int take(int)", "int fits(int)", "long sinks(int,int,int,int)",
        "int mornings(int,int,int)", "int sheet(int,int,int)", "int lose(int)", "int lay(int,int,int,int)", "int get(int,int,int)",
        "int copy(int,int,int,int,int)", "int write(int)", "int count(int)", "long digest()"};
    private static final String[] WORDS = {"throw", "throws", "try", "catch", "finally", "synchronized", "assert", "import",
        "package", "protected", "volatile", "transient", "native", "strictfp", "Object", "Exact", "System.out", "Exception",
        "hashCode", "toString", "valueOf", "Random", "Thread", "var"};

    public static void main(String[] args) throws Exception {
        constants();
        face();
        namesOfPrivateMethods();
        classesInside();
        source();
        room();
        CHECK.end();
    }

    private static void constants() {
        CHECK.due("NONE", TeaLaws.NONE, -1);
        CHECK.due("BAD", TeaLaws.BAD, -2);
        CHECK.due("NOT", TeaLaws.NOT, -3);
        CHECK.due("FULL", TeaLaws.FULL, -4);
    }

    private static String told(Method m) {
        List<String> types = new ArrayList<>();
        for (Class<?> type : m.getParameterTypes()) {
            types.add(type.getSimpleName());
        }
        return m.getReturnType().getSimpleName() + " " + m.getName() + "(" + String.join(",", types) + ")";
    }

    private static void face() {
        Class<?> c = TeaLaws.class;
        CHECK.holds("public and final", Modifier.isPublic(c.getModifiers()) && Modifier.isFinal(c.getModifiers()));
        Set<String> methods = new TreeSet<>();
        for (Method m : c.getDeclaredMethods()) {
            if (!Modifier.isPrivate(m.getModifiers())) {
                methods.add(told(m));
            }
        }
        CHECK.holds("the methods of the face: " + methods, methods.equals(new TreeSet<>(List.of(METHODS))));
        Constructor<?>[] constructors = c.getDeclaredConstructors();
        CHECK.due("constructors", constructors.length, 1);
        CHECK.holds("it is public", Modifier.isPublic(constructors[0].getModifiers()) && constructors[0].getParameterCount() == 0);
        Set<String> fields = new TreeSet<>();
        for (Field f : c.getDeclaredFields()) {
            if (!Modifier.isPrivate(f.getModifiers())) {
                fields.add(f.getName());
            }
        }
        CHECK.holds("the constants of the face: " + fields, fields.equals(Set.of("NONE", "BAD", "NOT", "FULL")));
    }

    private static List<Class<?>> all() {
        List<Class<?>> found = new ArrayList<>(List.of(TeaLaws.class.getDeclaredClasses()));
        found.add(TeaLaws.class);
        return found;
    }

    private static void namesOfPrivateMethods() {
        Set<String> names = new TreeSet<>();
        for (String method : METHODS) {
            names.add(method.substring(method.indexOf(' ') + 1, method.indexOf('(')));
        }
        for (Class<?> c : all()) {
            for (Method m : c.getDeclaredMethods()) {
                CHECK.holds(m + " has a name of its own", Modifier.isPublic(m.getModifiers()) || !names.contains(m.getName()));
                CHECK.holds(m + " takes seven at most", m.getParameterCount() <= 7);
            }
        }
    }

    private static void classesInside() {
        CHECK.holds("some twelve classes at most", all().size() <= 12);
        for (Class<?> c : all()) {
            int fields = 0;
            for (Field f : c.getDeclaredFields()) {
                boolean isStatic = Modifier.isStatic(f.getModifiers());
                CHECK.holds(f + " is final if it is static", !isStatic || Modifier.isFinal(f.getModifiers()));
                fields += isStatic ? 0 : 1;
            }
            CHECK.holds(c + " has some twenty fields at most", fields <= 20);
            CHECK.holds(c + " is static or the face", c == TeaLaws.class || Modifier.isStatic(c.getModifiers()));
        }
    }

    private static void source() throws Exception {
        String text = Files.readString(Path.of("src/main/java/TeaLaws.java"), StandardCharsets.ISO_8859_1);
        for (int i = 0; i < text.length(); i++) {
            CHECK.holds("plain sign at " + i, text.charAt(i) < 128);
        }
        String code = text.replaceAll("(?s)/\\*.*?\\*/", "").replaceAll("//[^\n]*", "");
        for (String word : WORDS) {
            Matcher matcher = Pattern.compile("\\b" + Pattern.quote(word) + "\\b").matcher(code);
            CHECK.holds("no " + word, !matcher.find());
        }
        CHECK.holds("no lambda", !code.contains("->"));
        CHECK.holds("no method reference", !code.contains("::"));
        CHECK.holds("no static block", !Pattern.compile("\\bstatic\\s*\\{").matcher(code).find());
        Matcher methods = Pattern.compile("(?m)^( +)[a-zA-Z][^;=\n]*\\) \\{\n((?:.*\n)*?)\\1\\}$").matcher(code);
        while (methods.find()) {
            CHECK.holds("some sixty lines at most", methods.group(2).lines().count() <= 60);
        }
    }

    /** Nothing but the constructor makes objects, so a run's room is that of the objects that it begins with. */
    private static void room() {
        com.sun.management.ThreadMXBean bean = (com.sun.management.ThreadMXBean) ManagementFactory.getThreadMXBean();
        long thread = Thread.currentThread().getId();
        TeaLaws x = Courts.of("a1s;b2d;a3r;f6s;e5d;c3r;a1s;b2d;a3r;f6s;e5d;c3r", "snd+A;sor+B;sfd+C;rbr-A;dfr-C;sns+D");
        useAll(x);
        long before = bean.getThreadAllocatedBytes(thread);
        for (int i = 0; i < 5; i++) {
            useAll(x);
        }
        long made = bean.getThreadAllocatedBytes(thread) - before;
        CHECK.holds("calls make nothing, not " + made + " bytes", made < 4096);
    }

    private static void useAll(TeaLaws x) {
        x.type(0, 'a');
        x.undo(1);
        x.type(1, 'D');
        x.crack(1, 1);
        x.deed(1, 1);
        x.back(0);
        x.back(1);
        x.digest();
        x.read(0, 0);
        x.fits(0);
        x.forget();
        x.sheet(0, 1, 60);
        x.write(0);
        x.take(0);
        x.copy(0, 0, 0, 1, 20);
        x.lay(0, 1, 1, 1);
        x.get(0, 1, 1);
        x.lose(0);
    }
}

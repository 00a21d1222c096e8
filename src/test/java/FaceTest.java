import java.io.IOException;
import java.lang.reflect.Constructor;
import java.lang.reflect.Field;
import java.lang.reflect.Method;
import java.lang.reflect.Modifier;
import java.nio.file.Files;
import java.nio.file.Path;
import java.util.Arrays;
import java.util.List;
import java.util.Set;
import java.util.TreeSet;
import java.util.regex.Matcher;
import java.util.regex.Pattern;

/** The public face, member by member, and those rules of LANGUAGE.md that can be seen from outside. */
public final class FaceTest {
    private static final String[] METHODS = {"int feed(int, int, int, int, int)", "int trim(int)",
        "int spoil(int, int)", "int record(int, long, int, long, int, int)", "int seal(long, int, int, long)",
        "int fault(int)", "long producer()", "long produce(int)", "long known(int, long, int)", "long log(int, int)",
        "int fetch(int, long, int)", "int byteAt(int)", "long taken(int, int)", "long find(int, long)",
        "int retain(int, int)", "int compact(int)", "int join(int, int)", "int leave(int, int)",
        "int beat(int, int, int)", "int commit(int, int, int, int, long)", "long committed(int, int)",
        "int group(int, int)", "int share(int, int)", "int ticks(int)", "int time()", "void crash(int)",
        "int recover()", "boolean isDown()", "int writes()", "int free()", "int audit()"};
    private static final Set<String> METHOD_NAMES = names();
    private static final String[] CONSTANTS = {"NONE", "FULL", "CUT", "FAULT", "LARGE", "FENCED", "GAP", "STRANGER",
        "OLD", "MIXED", "FOREIGN", "OUTSIDE"};

    /** What LANGUAGE.md's rule 4 lists, as far as a broker could use it. */
    private static final Set<String> LIBRARY = Set.of("Math.max", "Math.min", "Math.abs", "Math.floorMod",
        "Math.floorDiv", "Integer.bitCount", "Integer.compare", "Long.bitCount", "Long.compare", "System.arraycopy",
        "Arrays.copyOf", "Arrays.copyOfRange", "Arrays.fill");

    private static Set<String> names() {
        Set<String> names = new TreeSet<>();
        for (String method : METHODS) {
            names.add(method.substring(method.indexOf(' ') + 1, method.indexOf('(')));
        }
        return names;
    }

    private static void holds(String what, boolean fine) {
        Expect.same(what, 1, fine ? 1 : 0);
    }

    private static String signature(Method m) {
        StringBuilder s = new StringBuilder(m.getReturnType() + " " + m.getName() + "(");
        for (Class<?> type : m.getParameterTypes()) {
            s.append(s.charAt(s.length() - 1) == '(' ? "" : ", ").append(type);
        }
        return s.append(")").toString();
    }

    /** The exceptions that the document declares for a method. */
    private static String declared(String name) {
        List<String> none = List.of("time", "recover", "isDown", "writes");
        List<String> arguments = List.of("trim", "spoil", "fault", "byteAt", "taken");
        List<String> states = List.of("feed", "producer", "free", "audit");
        if (none.contains(name)) {
            return "[]";
        }
        String argument = "class java.lang.IllegalArgumentException";
        String state = "class java.lang.IllegalStateException";
        return arguments.contains(name) ? "[" + argument + "]"
                : states.contains(name) ? "[" + state + "]" : "[" + argument + ", " + state + "]";
    }

    private static void members() throws IllegalAccessException {
        Class<?> type = BatchBroker.class;
        holds("public and final", Modifier.isPublic(type.getModifiers()) && Modifier.isFinal(type.getModifiers()));
        Set<String> due = new TreeSet<>(Arrays.asList(METHODS));
        for (Method m : type.getDeclaredMethods()) {
            if (Modifier.isPublic(m.getModifiers())) {
                holds("a method of the face: " + signature(m), due.remove(signature(m)));
                holds("not static: " + m, !Modifier.isStatic(m.getModifiers()));
                Expect.same("exceptions of " + m, declared(m.getName()), Arrays.toString(m.getExceptionTypes()));
            } else {
                holds("private: " + m, Modifier.isPrivate(m.getModifiers()));
                holds("another name than the face has: " + m, !METHOD_NAMES.contains(m.getName()));
            }
        }
        holds("all methods: " + due, due.isEmpty());
        for (Class<?> inner : type.getDeclaredClasses()) {
            holds("static, not public: " + inner, Modifier.isStatic(inner.getModifiers())
                    && !Modifier.isPublic(inner.getModifiers()) && !Modifier.isProtected(inner.getModifiers()));
            for (Method m : inner.getDeclaredMethods()) {
                holds("at most seven parameters: " + m, m.getParameterCount() <= 7);
            }
        }
        List<String> constants = Arrays.asList(CONSTANTS);
        for (Field f : type.getDeclaredFields()) {
            if (Modifier.isPublic(f.getModifiers())) {
                Expect.same("constant " + f, -1 - constants.indexOf(f.getName()), f.getInt(null));
                holds("final and static: " + f, Modifier.isFinal(f.getModifiers()) && Modifier.isStatic(f.getModifiers()));
            } else {
                holds("private: " + f, Modifier.isPrivate(f.getModifiers()));
            }
        }
        Constructor<?>[] constructors = type.getDeclaredConstructors();
        Expect.same("one constructor", 1, constructors.length);
        holds("it is public", Modifier.isPublic(constructors[0].getModifiers()));
    }

    private static void staticFields(Class<?> type) {
        for (Field f : type.getDeclaredFields()) {
            holds("final if static: " + f, !Modifier.isStatic(f.getModifiers()) || Modifier.isFinal(f.getModifiers()));
        }
    }

    private static String code() throws IOException {
        String text = Files.readString(Path.of("src/main/java/BatchBroker.java"));
        return text.replaceAll("(?s)/\\*.*?\\*/", "").replaceAll("//[^\n]*", "").replaceAll("\"[^\"]*\"", "");
    }

    private static Set<String> ownClasses() {
        Set<String> own = new TreeSet<>();
        for (Class<?> inner : BatchBroker.class.getDeclaredClasses()) {
            own.add(inner.getSimpleName());
        }
        return own;
    }

    /** Rules 4, 6 and 12: of the library only what is listed there, no objects but exceptions made by calls. */
    private static void library(String code) {
        Set<String> own = ownClasses();
        Matcher use = Pattern.compile("\\b([A-Z]\\w*)\\.(\\w+)(\\s*\\()?").matcher(code);
        while (use.find()) {
            boolean isFunction = use.group(3) != null;
            holds("a listed function: " + use.group(), own.contains(use.group(1))
                    || isFunction && LIBRARY.contains(use.group(1) + "." + use.group(2)));
        }
        Matcher thrown = Pattern.compile("\\bthrow\\s+(\\w+\\s+\\w+)").matcher(code);
        while (thrown.find()) {
            holds("an exception of the document: " + thrown.group(),
                    thrown.group(1).matches("new Illegal(Argument|State)Exception"));
        }
        holds("no try", !Pattern.compile("\\btry\\b").matcher(code).find());
    }

    /** Rule 11: methods of some sixty lines, some twelve classes, some twenty fields in each. */
    private static void sizes(String code) {
        String[] lines = code.split("\n");
        int methods = 0;
        for (int i = 0; i < lines.length; i++) {
            Matcher begin = Pattern.compile("(    |        )(?! |class|for|if|while|switch)[^=;]*\\([^=;]*").matcher(lines[i]);
            if (begin.matches()) {
                methods++;
                int end = Arrays.asList(lines).subList(i, lines.length).indexOf(begin.group(1) + "}");
                holds("at most sixty lines: " + lines[i], end >= 0 && end <= 60);
            }
        }
        holds("methods were found: " + methods, methods >= METHODS.length);
        holds("at most twelve classes", BatchBroker.class.getDeclaredClasses().length + 1 <= 12);
        fieldCount(BatchBroker.class);
        for (Class<?> inner : BatchBroker.class.getDeclaredClasses()) {
            fieldCount(inner);
        }
    }

    private static void fieldCount(Class<?> type) {
        long count = Arrays.stream(type.getDeclaredFields()).filter(f -> !Modifier.isStatic(f.getModifiers())).count();
        holds("at most twenty fields in " + type, count <= 20);
    }

    private static void source(String code) {
        String[] never = {"::", "\\bfinally\\b", "\\bsynchronized\\b", "\\bassert\\b", "\\bstatic\\s*\\{", "Exact\\(",
            "\\bSystem\\.(?!arraycopy)", "\\bpackage\\b", "\\bprotected\\b", "\\bimport\\s+(?!java\\.util\\.)"};
        for (String word : never) {
            holds("never " + word, !Pattern.compile(word).matcher(code).find());
        }
    }

    /** "All memory is made at first": a run of calls makes next to nothing, where a new object makes its rows. */
    private static void memory() {
        com.sun.management.ThreadMXBean threads =
                (com.sun.management.ThreadMXBean) java.lang.management.ManagementFactory.getThreadMXBean();
        long id = Thread.currentThread().getId();
        busy(new BatchBroker(2, 1, 64));
        BatchBroker x = new BatchBroker(2, 1, 64);
        long before = threads.getThreadAllocatedBytes(id);
        busy(x);
        long made = threads.getThreadAllocatedBytes(id) - before;
        holds("a run of calls made " + made + " bytes", made < 1 << 20);
    }

    private static void busy(BatchBroker x) {
        x.join(0, 0);
        for (int i = 0; i < 40; i++) {
            x.record(4, i % 3, 1, i, 60, 0);
            x.seal(1, 0, 4 * i, i);
            x.produce(0);
            x.fetch(0, x.log(0, 0), 32768);
            x.taken(0, 0);
            x.commit(0, 0, 1, 0, x.log(0, 1));
        }
        x.compact(0);
        x.compact(2);
        x.retain(0, 500);
        x.join(0, 1);
        x.ticks(200);
        x.crash(1);
        x.producer();
        x.recover();
        x.find(0, 20);
        x.known(0, 1, 0);
        x.committed(0, 0);
        x.free();
        x.audit();
    }

    public static void main(String[] args) throws IllegalAccessException, IOException {
        members();
        staticFields(BatchBroker.class);
        for (Class<?> inner : BatchBroker.class.getDeclaredClasses()) {
            staticFields(inner);
        }
        source(code());
        library(code());
        sizes(code());
        memory();
        Expect.end("FaceTest");
    }
}

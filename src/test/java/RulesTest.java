import java.io.IOException;
import java.lang.management.ManagementFactory;
import java.lang.reflect.Array;
import java.lang.reflect.Constructor;
import java.lang.reflect.Field;
import java.lang.reflect.Method;
import java.lang.reflect.Modifier;
import java.nio.file.Files;
import java.nio.file.Path;
import java.util.ArrayDeque;
import java.util.Arrays;
import java.util.Collections;
import java.util.Deque;
import java.util.IdentityHashMap;
import java.util.List;
import java.util.Random;
import java.util.Set;
import java.util.TreeSet;
import java.util.regex.Matcher;
import java.util.regex.Pattern;

/** The face of the class, and what LANGUAGE.md says that can be seen by a program. */
public final class RulesTest {
    private static final String FACE = """
        feed 5;sheet 1;fault 0;where 0;about 1;stroke 2;meeting 2;part 2;pair 2;walk 2;trail 2;ride 2;travel 0;
        started 0;better 1;exchanged 2;floor 0;time 0;pen 2;longest 0;farthest 0;lifts 0;rides 1;would 4;worst 0;
        nearest 0;enough 1;add 4;drop 1;home 2;join 1;pace 2;exchange 2;improve 0;undo 0;loose 1;size 1;trouble 0""";

    /** What none of the code may have, as words of its text without comments. */
    private static final String[] RULED_OUT = {"->", "::", "\\bfinally\\b", "\\bsynchronized\\b", "\\bassert\\b",
        "\\bcatch\\b", "Exact\\b", "\\bvar\\b", "\\bdouble\\b", "\\bfloat\\b", "static\\s*\\{", "System\\.(?!arraycopy)",
        "\\bequals\\b", "\\bhashCode\\b", "\\btoString\\b", "\\bprotected\\b", "\\bRandom\\b", "\\binstanceof\\b",
        "\\[\\]\\[\\]\\[\\]", "\"\\s*\\+", "\\+\\s*\"", "while \\(true\\)", "for \\(;;\\)"};

    private static int wrong = 0;

    private static void hold(boolean holds, String rule) {
        if (!holds) {
            wrong++;
            System.out.println("not kept: " + rule);
        }
    }

    private static void face() {
        TreeSet<String> open = new TreeSet<>();
        for (Method m : PenTrails.class.getDeclaredMethods()) {
            if (Modifier.isPublic(m.getModifiers())) {
                open.add(m.getName() + " " + m.getParameterCount());
                hold(m.getReturnType() == (m.getName().equals("undo") ? boolean.class : int.class), "type of " + m);
                hold(Arrays.stream(m.getParameterTypes()).allMatch(t -> t == int.class), "parameters of " + m);
            } else {
                hold(Modifier.isPrivate(m.getModifiers()), m + " is private");
            }
        }
        hold(open.equals(new TreeSet<>(List.of(FACE.replaceAll(";\\s*", ";").split(";")))), "the face: " + open);
        Constructor<?>[] made = PenTrails.class.getDeclaredConstructors();
        hold(made.length == 1 && Modifier.isPublic(made[0].getModifiers()) && made[0].getParameterCount() == 0, "the constructor");
        int mods = PenTrails.class.getModifiers();
        hold(Modifier.isPublic(mods) && Modifier.isFinal(mods), "public and final");
    }

    private static void members(Class<?> c, TreeSet<String> open) {
        int own = 0;
        for (Field f : c.getDeclaredFields()) {
            int mods = f.getModifiers();
            hold(!Modifier.isStatic(mods) || Modifier.isFinal(mods), f + " is final");
            boolean none = c == PenTrails.class && f.getName().equals("NONE");
            hold(c != PenTrails.class || (none ? Modifier.isPublic(mods) : Modifier.isPrivate(mods)), f + " is private");
            own += Modifier.isStatic(mods) ? 0 : 1;
        }
        hold(own <= 20, c + " has some twenty fields");
        for (Method m : c.getDeclaredMethods()) {
            hold(m.getParameterCount() <= 7, m + " has at most seven parameters");
            hold(Modifier.isPublic(m.getModifiers()) || !open.contains(m.getName()), m + " has a name of its own");
        }
    }

    private static void classes() {
        TreeSet<String> open = new TreeSet<>();
        for (Method m : PenTrails.class.getDeclaredMethods()) {
            if (Modifier.isPublic(m.getModifiers())) {
                open.add(m.getName());
            }
        }
        members(PenTrails.class, open);
        Class<?>[] inside = PenTrails.class.getDeclaredClasses();
        hold(inside.length <= 11, "some twelve classes");
        for (Class<?> c : inside) {
            hold(Modifier.isStatic(c.getModifiers()), c + " is static");
            members(c, open);
        }
    }

    private static void text() throws IOException {
        String all = Files.readString(Path.of("src/main/java/PenTrails.java"));
        hold(all.chars().allMatch(c -> c == '\n' || c >= 32 && c < 127), "plain signs alone");
        String code = all.replaceAll("(?s)/\\*.*?\\*/", "").replaceAll("//[^\n]*", "");
        for (String out : RULED_OUT) {
            hold(!Pattern.compile(out).matcher(code).find(), "without " + out);
        }
        Matcher imports = Pattern.compile("import ([^;]*);").matcher(code);
        while (imports.find()) {
            hold(imports.group(1).equals("java.util.NoSuchElementException"), "import of " + imports.group(1));
        }
        Matcher thrown = Pattern.compile("throw (?!new NoSuchElementException\\(\"[a-z ]*\"\\);)").matcher(code);
        hold(!thrown.find(), "throws of NoSuchElementException alone");
        int begun = 0;
        String[] lines = all.split("\n");
        for (int i = 0; i < lines.length; i++) {
            if (lines[i].matches(" {4}(?: {4})?(?:public |private |static )*[A-Za-z\\[\\]]+ ?[A-Za-z]*\\(.*\\{")) {
                begun = i;
            }
            if (lines[i].matches(" {4}(?: {4})?}")) {
                hold(lines[i].equals("    }") || i - begun < 60, "a short method at line " + (begun + 1));
            }
        }
    }

    /** The calls make no objects: all rows are made with the object and used again. */
    private static void room() {
        com.sun.management.ThreadMXBean threads = (com.sun.management.ThreadMXBean) ManagementFactory.getThreadMXBean();
        long thread = Thread.currentThread().getId();
        Random by = new Random(1);
        PenTrails x = Due.drawn(ModelTest.drawing(by, 20, 20, 5));
        long ahead = threads.getThreadAllocatedBytes(thread);
        int sum = 0;
        for (int i = 0; i < 100; i++) {
            sum += x.add(0, i % 20, 20, 20) + x.join(i % 3) + x.better(0) + x.worst() + x.nearest() + x.floor();
            sum += x.improve() + x.enough(1) + x.pen(i, 0) + x.drop(i % 5) + (x.undo() ? 1 : 0) + (x.undo() ? 1 : 0);
        }
        long made = threads.getThreadAllocatedBytes(thread) - ahead;
        hold(made < 50000, "1200 calls make next to nothing, not " + made + " bytes (" + sum + ")");
    }

    /** 512 objects, one for each call of a run, fit into the room of 600,000 objects and 7.3 million elements. */
    private static void roomOfOne() throws IllegalAccessException {
        Set<Object> seen = Collections.newSetFromMap(new IdentityHashMap<>());
        Deque<Object> open = new ArrayDeque<>(List.of(new PenTrails()));
        int elements = 0;
        while (!open.isEmpty()) {
            Object o = open.poll();
            if (!seen.add(o)) {
                continue;
            }
            if (o.getClass().isArray()) {
                elements += Array.getLength(o);
                for (int i = 0; !o.getClass().getComponentType().isPrimitive() && i < Array.getLength(o); i++) {
                    open.add(Array.get(o, i));
                }
                continue;
            }
            for (Field f : o.getClass().getDeclaredFields()) {
                if (!Modifier.isStatic(f.getModifiers())) {
                    elements++;
                    f.setAccessible(true);
                    if (!f.getType().isPrimitive()) {
                        open.add(f.get(o));
                    }
                }
            }
        }
        hold(seen.size() < 600000 / 512, "few objects in one, not " + seen.size());
        hold(elements < 7300000 / 512, "few fields and elements in one, not " + elements);
        System.out.println("an object is made of " + seen.size() + " objects and arrays with " + elements + " fields and elements");
    }

    public static void main(String[] args) throws IOException, IllegalAccessException {
        face();
        classes();
        text();
        room();
        roomOfOne();
        System.out.println(wrong == 0 ? "all rules that were looked at are kept" : wrong + " rules are not kept");
        if (wrong != 0) {
            System.exit(1);
        }
    }
}

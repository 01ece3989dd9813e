import java.lang.reflect.Array;
import java.lang.reflect.Field;
import java.lang.reflect.InvocationTargetException;
import java.lang.reflect.Method;
import java.lang.reflect.Modifier;
import java.nio.file.Files;
import java.nio.file.Path;
import java.util.ArrayDeque;
import java.util.Arrays;
import java.util.Collections;
import java.util.IdentityHashMap;
import java.util.List;
import java.util.NoSuchElementException;
import java.util.Random;
import java.util.Set;
import java.util.TreeSet;

/** The face, the room that an object takes, calls with any arguments, and some rules of LANGUAGE.md. */
public final class FaceTest {
    private static final String FACE = "int feed(long,long,long) int hall() int night() int visitor(int,int) int at(int,int)"
            + " int vase(int,int) int light() int shown(int) int sees() int treasures() int step(int) int trim(int)"
            + " int fill(int) boolean undo() int judged(int) int shortest(int) int cover() boolean say(int,int,boolean)"
            + " int days() int ask() int meet() int never() int taken(int,int,int) int chance(int,int,int)"
            + " int pass(int,int) int best() int lonely(int) int crowd(int) int alibi(int,int) int follows(int,int)"
            + " int blot() int gap(int) int same() int wavers(int) int reach(int) int census(int,int) int choose()"
            + " int fellow(int) int exposed(int) int would(int) int rests(int,int,int,int) int nights(int,int,int)"
            + " boolean mark(int,boolean) int count(int)";

    public static void main(String[] args) throws Exception {
        face();
        nestedClasses();
        room();
        anyArguments();
        source();
        Check.end("FaceTest");
    }

    private static void face() {
        Set<String> got = new TreeSet<>();
        Set<String> hidden = new TreeSet<>();
        for (Method m : LanternHall.class.getDeclaredMethods()) {
            if (Modifier.isPublic(m.getModifiers())) {
                StringBuilder types = new StringBuilder();
                for (Class<?> type : m.getParameterTypes()) {
                    types.append(types.length() == 0 ? "" : ",").append(type.getName());
                }
                got.add(m.getReturnType().getName() + " " + m.getName() + "(" + types + ")");
                Check.same(m.getName() + " is of the object", Modifier.isStatic(m.getModifiers()), false);
            } else {
                Check.same(m.getName() + " is private", Modifier.isPrivate(m.getModifiers()), true);
                hidden.add(m.getName());
            }
        }
        Set<String> want = new TreeSet<>();
        for (String part : FACE.split("\\) ?")) {
            want.add(part + ")");
        }
        Check.same("methods", got.size(), want.size());
        for (String method : want) {
            Check.same("there is " + method, got.contains(method), true);
            String name = method.substring(method.indexOf(' ') + 1, method.indexOf('('));
            Check.same("no private " + name, hidden.contains(name), false);
        }
        for (Field f : LanternHall.class.getDeclaredFields()) {
            boolean isNone = f.getName().equals("NONE");
            Check.same(f.getName() + " public", Modifier.isPublic(f.getModifiers()), isNone);
            Check.same(f.getName() + " private", Modifier.isPrivate(f.getModifiers()), !isNone);
        }
        Check.same("final", Modifier.isFinal(LanternHall.class.getModifiers()), true);
        Check.same("one constructor", LanternHall.class.getDeclaredConstructors().length, 1);
    }

    private static void nestedClasses() {
        Class<?>[] inside = LanternHall.class.getDeclaredClasses();
        Check.same("twelve classes at most", inside.length < 12, true);
        for (Class<?> c : inside) {
            Check.same(c + " static", Modifier.isStatic(c.getModifiers()), true);
            Check.same(c + " not public", Modifier.isPublic(c.getModifiers()), false);
            int fields = 0;
            for (Field f : c.getDeclaredFields()) {
                Check.same(f + " is a constant if static",
                        !Modifier.isStatic(f.getModifiers()) || Modifier.isFinal(f.getModifiers()), true);
                fields += Modifier.isStatic(f.getModifiers()) ? 0 : 1;
            }
            Check.same(c + " some twenty fields", fields <= 20, true);
            for (Method m : c.getDeclaredMethods()) {
                Check.same(m + " seven parameters", m.getParameterCount() <= 7, true);
            }
        }
    }

    /** What a new object holds: 512 of them must fit into the room of one run with ease. */
    private static void room() throws Exception {
        Set<Object> known = Collections.newSetFromMap(new IdentityHashMap<>());
        ArrayDeque<Object> open = new ArrayDeque<>(List.of(new LanternHall()));
        int elements = 0;
        while (!open.isEmpty()) {
            Object o = open.remove();
            if (!known.add(o)) {
                continue;
            }
            if (o.getClass().isArray()) {
                int length = Array.getLength(o);
                elements += length;
                for (int i = 0; i < length && !o.getClass().getComponentType().isPrimitive(); i++) {
                    open.add(Array.get(o, i));
                }
                continue;
            }
            for (Field f : o.getClass().getDeclaredFields()) {
                if (!Modifier.isStatic(f.getModifiers())) {
                    elements++;
                    f.setAccessible(true);
                    if (!f.getType().isPrimitive()) {
                        open.add(f.get(o));
                    }
                }
            }
        }
        System.out.println("a new object: " + known.size() + " objects and arrays, " + elements + " fields and elements");
        Check.same("objects", known.size() < 100, true);
        Check.same("elements", elements < 5000, true);
    }

    /** No call throws, but rests its NoSuchElementException, whatever comes. */
    private static void anyArguments() throws Exception {
        Method[] methods = Arrays.stream(LanternHall.class.getDeclaredMethods())
                .filter(m -> Modifier.isPublic(m.getModifiers())).sorted((a, b) -> a.getName().compareTo(b.getName()))
                .toArray(Method[]::new);
        for (int run = 0; run < 300; run++) {
            Random r = new Random(3000 + run);
            LanternHall x = new LanternHall();
            int calls = 0;
            if (r.nextInt(4) > 0) {
                Check.tellHall(x, Model.spaced(Model.random(r).tell(r), r));
                calls = 60;
            }
            for (; calls < 511; calls++) {
                Method m = methods[r.nextInt(methods.length)];
                Object[] given = new Object[m.getParameterCount()];
                for (int i = 0; i < given.length; i++) {
                    Class<?> type = m.getParameterTypes()[i];
                    given[i] = type == boolean.class ? (Object) r.nextBoolean()
                            : type == long.class ? (Object) anyLong(r) : (Object) anyInt(r);
                }
                call(x, m, given);
            }
        }
    }

    private static int anyInt(Random r) {
        int[] far = {Integer.MAX_VALUE, Integer.MIN_VALUE, -1, 0, 31, 32, 64, 1 << 30, r.nextInt()};
        return r.nextInt(4) == 0 ? far[r.nextInt(far.length)] : r.nextInt(14) - 1;
    }

    private static long anyLong(Random r) {
        String signs = "()<=+-*; \nabcons019  ;;";
        long value = 0;
        for (int i = 0; i < 8; i++) {
            value = value << 8 | signs.charAt(r.nextInt(signs.length()));
        }
        return r.nextInt(4) == 0 ? r.nextLong() : value;
    }

    private static void call(LanternHall x, Method m, Object[] given) throws Exception {
        String told = m.getName() + Arrays.toString(given);
        try {
            m.invoke(x, given);
            Check.same(told, 0, 0);
        } catch (InvocationTargetException e) {
            boolean due = m.getName().equals("rests") && e.getCause().getClass() == NoSuchElementException.class;
            Check.same(told + " threw " + e.getCause(), due, true);
        }
    }

    private static void source() throws Exception {
        String root = System.getenv("LANTERN_ROOT");
        Path file = Path.of(root == null ? "." : root, "src/main/java/LanternHall.java");
        String code = Files.readString(file).replaceAll("(?s)/\\*.*?\\*/", "").replaceAll("//[^\n]*", "");
        for (String word : new String[] {"->", "::", "catch", "finally", "synchronized", "assert ", "package ",
            "import static", "System.out", "Random", ".equals(", "hashCode", "toString", "Object", "Exact", "double",
            "float", "\" +", "+ \"", "var ", "record ", "yield "}) {
            Check.same("'" + word + "' in the source", code.contains(word), false);
        }
        for (String line : code.split("\n")) {
            if (line.startsWith("import ")) {
                boolean known = line.equals("import java.util.Arrays;")
                        || line.equals("import java.util.NoSuchElementException;");
                Check.same(line, known, true);
            }
        }
        methodLengths(code.split("\n"));
    }

    private static void methodLengths(String[] lines) {
        int began = 0;
        for (int i = 0; i < lines.length; i++) {
            if (lines[i].matches(" {4}( {4})?[a-zA-Z].*\\) (throws \\w+ )?\\{")) {
                began = i;
            } else if (lines[i].matches(" {4}( {4})?\\}") && began > 0) {
                Check.same("short: " + lines[began].trim(), i - began <= 60, true);
                began = 0;
            }
        }
    }
}

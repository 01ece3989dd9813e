import java.io.PrintWriter;
import java.io.StringWriter;
import java.util.ArrayList;
import java.util.List;
import java.util.Map;
import java.util.Optional;
import java.util.Set;
import java.util.TreeMap;
import java.util.TreeSet;
import java.util.regex.Matcher;
import java.util.regex.Pattern;
import java.util.spi.ToolProvider;

/** LANGUAGE.md, rule 11: calls go at most eight deep; and rule 8: which methods call themselves, or one another. */
public final class DepthTest {
    private static final Pattern METHOD = Pattern.compile("  (?:[\\w$.\\[\\]]+ )*([\\w$]+)\\(.*\\)(?: throws .*)?;");
    private static final Pattern CALL = Pattern.compile("invoke\\w+ .*// (?:Interface)?Method ([\\w$/.\"<>]+):.*");
    private static final int MOST_DEEP = 8;

    private static final Map<String, Set<String>> CALLS = new TreeMap<>();
    private static List<String> deepest = new ArrayList<>();

    public static void main(String[] args) {
        Optional<ToolProvider> javap = ToolProvider.findFirst("javap");
        if (javap.isEmpty()) {
            System.out.println("DepthTest: this Java has no javap, nothing is looked at");
            return;
        }
        readCalls(javap.get(), LanternHall.class);
        for (Class<?> inside : LanternHall.class.getDeclaredClasses()) {
            readCalls(javap.get(), inside);
        }
        Check.same("the calls of all methods are known", CALLS.size() > 100, true);
        Set<String> recursive = new TreeSet<>();
        for (String method : CALLS.keySet()) {
            follow(method, new ArrayList<>(), recursive);
        }
        Check.same("at most eight deep: " + deepest, deepest.size() <= MOST_DEEP, true);
        // Each carries the depth of its PART, and refuses a sixth.
        Check.same("recursion", recursive.toString(), "[LanternHall$Law.readLevel, LanternHall$Law.readPart]");
        Check.end("DepthTest");
    }

    private static void readCalls(ToolProvider javap, Class<?> type) {
        StringWriter out = new StringWriter();
        PrintWriter writer = new PrintWriter(out);
        int ended = javap.run(writer, writer, "-p", "-c", "-cp", System.getProperty("java.class.path"), type.getName());
        writer.flush();
        Check.same("javap of " + type.getName(), ended, 0);
        String method = "";
        for (String line : out.toString().split("\\R")) {
            Matcher begins = METHOD.matcher(line);
            Matcher calls = CALL.matcher(line);
            if (begins.matches()) {
                String name = begins.group(1);
                method = type.getName() + "." + (name.equals(type.getName()) ? "<init>" : name);
                CALLS.putIfAbsent(method, new TreeSet<>());
            } else if (calls.find() && !method.isEmpty()) {
                String called = calls.group(1).replace("\"", "");
                CALLS.get(method).add(called.contains(".") ? called : type.getName() + "." + called);
            }
        }
    }

    /** All ways on from a method, each method but once on a way: its recursion is left out. */
    private static void follow(String method, List<String> above, Set<String> recursive) {
        if (above.contains(method)) {
            recursive.addAll(above.subList(above.indexOf(method), above.size()));
            return;
        }
        if (!CALLS.containsKey(method)) {
            return;
        }
        List<String> way = new ArrayList<>(above);
        way.add(method);
        if (way.size() > deepest.size()) {
            deepest = way;
        }
        for (String called : CALLS.get(method)) {
            follow(called, way, recursive);
        }
    }
}

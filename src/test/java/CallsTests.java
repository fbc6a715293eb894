import java.io.PrintWriter;
import java.io.StringWriter;
import java.util.ArrayList;
import java.util.HashMap;
import java.util.HashSet;
import java.util.List;
import java.util.Map;
import java.util.Optional;
import java.util.Set;
import java.util.TreeMap;
import java.util.TreeSet;
import java.util.regex.Matcher;
import java.util.regex.Pattern;
import java.util.spi.ToolProvider;

/**
 * Rules 8 and 11 of LANGUAGE.md, as far as they speak of calls: how deep they go, and which methods come back to
 * themselves. The calls are read out of the compiled class by the JDK's own javap.
 */
public final class CallsTests {
    private static final int DEEPEST = 8;

    private static final Map<String, Set<String>> CALLS = new TreeMap<>();
    private static final Map<String, String> HEADS = new HashMap<>();
    private static int wrong = 0;

    public static void main(String[] args) {
        Optional<ToolProvider> javap = ToolProvider.findFirst("javap");
        if (javap.isEmpty()) {
            System.out.println("no javap here to read calls with");
            return;
        }
        List<String> asked = new ArrayList<>(List.of("-p", "-c", "-cp", System.getProperty("java.class.path"), "TubBites"));
        for (Class<?> inside : TubBites.class.getDeclaredClasses()) {
            asked.add(inside.getName());
        }
        StringWriter told = new StringWriter();
        int answer = javap.get().run(new PrintWriter(told), new PrintWriter(System.out, true), asked.toArray(new String[0]));
        must(answer == 0, "javap reads the class");
        readCalls(told.toString().split("\n"));
        must(CALLS.keySet().stream().filter(m -> HEADS.get(m).contains("public ")).count() == 39, "the face is there: " + HEADS);
        for (String method : CALLS.keySet()) {
            comesBack(method);
            int deep = depth(method, new HashMap<>());
            must(deep <= DEEPEST, "from " + method + " calls go " + deep + " deep");
        }
        System.out.println(wrong == 0 ? "calls go as the rules ask" : wrong + " rules are broken");
        if (wrong != 0) {
            System.exit(1);
        }
    }

    private static void must(boolean fine, String what) {
        if (!fine) {
            wrong++;
            System.out.println("not so: " + what);
        }
    }

    private static void readCalls(String[] lines) {
        Pattern classHead = Pattern.compile("(?:\\w+ )*class (\\S+).*");
        Pattern methodHead = Pattern.compile("  (\\S.*?)?(\\S+)\\(.*\\);");
        Pattern call = Pattern.compile(".*// (?:Interface)?Method (\\S+?):.*");
        String type = "";
        String method = "";
        for (String line : lines) {
            Matcher m = classHead.matcher(line);
            if (m.matches()) {
                type = m.group(1);
            }
            m = methodHead.matcher(line);
            if (m.matches()) {
                method = type + "." + (m.group(2).equals(type) ? "<init>" : m.group(2));
                CALLS.put(method, new TreeSet<>());
                HEADS.put(method, m.group(1) == null ? "" : m.group(1));
            }
            m = call.matcher(line);
            if (m.matches() && CALLS.containsKey(method)) {
                String called = m.group(1).replace('/', '.').replace("\"", "");
                CALLS.get(method).add(called.contains(".") ? called : type + "." + called);
            }
        }
    }

    private static boolean leadsTo(String from, String to, Set<String> seen) {
        for (String next : CALLS.getOrDefault(from, Set.of())) {
            if (next.equals(to) || seen.add(next) && leadsTo(next, to, seen)) {
                return true;
            }
        }
        return false;
    }

    /** Rule 8: a private static method may call itself, private methods may call one another. */
    private static void comesBack(String method) {
        String head = HEADS.get(method);
        must(!CALLS.get(method).contains(method) || head.contains("private ") && head.contains("static "),
            method + " does not call itself");
        must(!leadsTo(method, method, new HashSet<>()) || head.contains("private "), method + " does not come back to itself");
    }

    /** Methods that call one another count once, so that the depth is that of calls that are no recursion. */
    private static int depth(String method, Map<String, Integer> known) {
        if (!known.containsKey(method)) {
            Set<String> ring = new TreeSet<>(Set.of(method));
            for (String other : CALLS.keySet()) {
                if (leadsTo(method, other, new HashSet<>()) && leadsTo(other, method, new HashSet<>())) {
                    ring.add(other);
                }
            }
            int below = 0;
            for (String one : ring) {
                for (String next : CALLS.getOrDefault(one, Set.of())) {
                    below = ring.contains(next) ? below : Math.max(below, depth(next, known));
                }
            }
            for (String one : ring) {
                known.put(one, below + 1);
            }
        }
        return known.get(method);
    }
}

import java.io.PrintWriter;
import java.io.StringWriter;
import java.util.ArrayList;
import java.util.HashMap;
import java.util.HashSet;
import java.util.List;
import java.util.Map;
import java.util.Set;
import java.util.TreeMap;
import java.util.TreeSet;
import java.util.regex.Matcher;
import java.util.regex.Pattern;
import java.util.spi.ToolProvider;

/** LANGUAGE.md, rules 8 and 11: no call goes deeper than eight, and none comes to itself again. */
public final class DepthTest {
    private static final int DEEPEST = 8;
    private static final Pattern CLASS = Pattern.compile("^(?:\\w+ )*class (\\S+)(?: extends (\\S+))? .*");
    private static final Pattern METHOD = Pattern.compile("^  \\S.*?([\\w$]+)\\(.*\\);$");
    private static final Pattern CALL = Pattern.compile("invoke(\\w+) .*// (?:Interface)?Method (?:([\\w/$]+)\\.)?\"?([\\w$<>]+)\"?:");

    /** What each method (class.name) calls: how, of which class, which name. */
    private final Map<String, Set<String[]>> calls = new TreeMap<>();
    private final Map<String, String> above = new HashMap<>();
    private final Map<String, List<String>> deepest = new HashMap<>();

    private void look(String text) {
        String in = "";
        String method = "";
        for (String line : text.split("\\R")) {
            Matcher m = CLASS.matcher(line);
            if (m.matches()) {
                in = m.group(1);
                above.put(in, m.group(2) == null ? "" : m.group(2));
                continue;
            }
            m = METHOD.matcher(line);
            if (m.matches()) {
                method = in + "." + (m.group(1).equals(in) ? "<init>" : m.group(1));
                calls.putIfAbsent(method, new HashSet<>());
                continue;
            }
            m = CALL.matcher(line);
            if (m.find()) {
                calls.get(method).add(new String[] {m.group(1), m.group(2) == null ? in : m.group(2), m.group(3)});
            }
        }
    }

    private boolean isUnder(String one, String other) {
        for (String c = one; c != null; c = above.get(c)) {
            if (c.equals(other)) {
                return true;
            }
        }
        return false;
    }

    /** Where a call may come to: the method as the class has it, and as each class under it has it. */
    private Set<String> goals(String[] call) {
        Set<String> goals = new TreeSet<>();
        for (String c = call[1]; c != null; c = above.get(c)) {
            if (calls.containsKey(c + "." + call[2])) {
                goals.add(c + "." + call[2]);
                break;
            }
        }
        for (String c : above.keySet()) {
            if (call[0].equals("virtual") && isUnder(c, call[1]) && calls.containsKey(c + "." + call[2])) {
                goals.add(c + "." + call[2]);
            }
        }
        return goals;
    }

    private List<String> deepestFrom(String method, Set<String> open) {
        if (deepest.containsKey(method)) {
            return deepest.get(method);
        }
        Check.due("comes to itself again: " + method, open.contains(method) ? 1 : 0, 0);
        List<String> best = new ArrayList<>();
        if (open.add(method)) {
            for (String[] call : calls.get(method)) {
                for (String goal : goals(call)) {
                    List<String> chain = deepestFrom(goal, open);
                    best = chain.size() > best.size() ? chain : best;
                }
            }
            open.remove(method);
        }
        List<String> whole = new ArrayList<>(List.of(method));
        whole.addAll(best);
        deepest.put(method, whole);
        return whole;
    }

    public static void main(String[] args) throws Exception {
        ToolProvider javap = ToolProvider.findFirst("javap").orElse(null);
        if (javap == null) {
            System.out.println("this machine's java has no javap: depths are not looked at");
            return;
        }
        List<String> names = new ArrayList<>(List.of("-c", "-p", "-cp", System.getProperty("java.class.path"), "PenAcres"));
        for (Class<?> c : PenAcres.class.getDeclaredClasses()) {
            names.add(c.getName());
        }
        StringWriter text = new StringWriter();
        PrintWriter to = new PrintWriter(text);
        Check.due("javap", javap.run(to, to, names.toArray(new String[0])), 0);
        to.flush();
        DepthTest test = new DepthTest();
        test.look(text.toString());
        Check.due("classes seen", test.above.size(), PenAcres.class.getDeclaredClasses().length + 1);
        List<String> most = List.of();
        for (String method : test.calls.keySet()) {
            List<String> chain = test.deepestFrom(method, new HashSet<>());
            Check.due("too deep: " + chain, chain.size() <= DEEPEST ? 1 : 0, 1);
            most = chain.size() > most.size() ? chain : most;
        }
        System.out.println("the deepest: " + most.size() + " " + most);
        Check.end();
    }
}

import java.lang.reflect.Method;
import java.nio.file.Files;
import java.nio.file.Path;
import java.util.Set;
import java.util.TreeSet;
import java.util.regex.Matcher;
import java.util.regex.Pattern;

/** What README.md tells holds: its example's answers, and the names of the calls. */
public final class ReadmeTest {
    private static final Pattern CALL = Pattern.compile("(?m)^x\\.(\\w+)\\(([^)]*)\\); +// (-?\\d+): .*$");
    private static final Pattern ROW = Pattern.compile("(?m)^\\| [a-z ]+ \\| (`\\w+` ?)+\\|$");
    private static final Pattern NAME = Pattern.compile("`(\\w+)`");

    private static Method named(String name) {
        for (Method m : PenAcres.class.getMethods()) {
            if (m.getDeclaringClass() == PenAcres.class && m.getName().equals(name)) {
                return m;
            }
        }
        return null;
    }

    private static Object[] arguments(Method m, String text) {
        String[] told = text.isEmpty() ? new String[0] : text.split(", ");
        Object[] all = new Object[told.length];
        for (int i = 0; i < told.length; i++) {
            long v = Long.decode(told[i]);
            all[i] = m.getParameterTypes()[i] == long.class ? (Object) v : (Object) (int) v;
        }
        return all;
    }

    private static void example(String readme) throws ReflectiveOperationException {
        PenAcres x = new PenAcres();
        int calls = 0;
        Matcher m = CALL.matcher(readme);
        while (m.find()) {
            Method call = named(m.group(1));
            Check.due("README.md tells of " + m.group(1), call == null ? 0 : 1, 1);
            if (call != null) {
                Number got = (Number) call.invoke(x, arguments(call, m.group(2)));
                Check.due("README.md: " + m.group(), got.longValue(), Long.parseLong(m.group(3)));
            }
            calls++;
        }
        Check.due("README.md: lines that begin with a call", calls, readme.split("(?m)^x\\.", -1).length - 1);
        Check.due("README.md: has an example", calls > 0 ? 1 : 0, 1);
    }

    private static void names(String readme) {
        Set<String> told = new TreeSet<>();
        Matcher rows = ROW.matcher(readme);
        while (rows.find()) {
            Matcher names = NAME.matcher(rows.group());
            while (names.find()) {
                told.add(names.group(1));
            }
        }
        Set<String> face = new TreeSet<>();
        for (Method m : PenAcres.class.getMethods()) {
            if (m.getDeclaringClass() == PenAcres.class) {
                face.add(m.getName());
            }
        }
        Check.due("README.md tells of " + told + ", the face is " + face, told.equals(face) ? 1 : 0, 1);
    }

    public static void main(String[] args) throws Exception {
        String readme = Files.readString(Path.of("README.md"));
        example(readme);
        names(readme);
        Check.end();
    }
}

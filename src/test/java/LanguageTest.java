import java.lang.reflect.Constructor;
import java.lang.reflect.Field;
import java.lang.reflect.Method;
import java.lang.reflect.Modifier;
import java.nio.file.Files;
import java.nio.file.Path;
import java.util.Set;
import java.util.TreeSet;
import java.util.regex.Matcher;
import java.util.regex.Pattern;

/** The rules of LANGUAGE.md that can be seen in the source or in the compiled classes. */
public final class LanguageTest {
    private static final String[] FACE = {
        "int smudge(int,int)", "int cell(int,int)", "long cells(int)", "int hand(int,int)",
        "int stroke(int,int,int)", "int of(int,int)", "int told(int,int,int)", "int set(int,int,int)",
        "int alter(int,int,int,int)", "int cut(int,int)", "int turn(int,int)", "int as(int,int)",
        "long line(int)", "long inside(int)", "int years(int)", "int now(int)", "int on(int,int,int)",
        "int dry(int)", "int rich(int)", "int rain(int)", "int longer(int)", "int begin(int)",
        "int kind(int)", "int ink(int)", "int court(int,int)", "int way(int,int,int)", "int sea()",
        "int feed(int,int)", "int wipe()", "int field()", "int sheet(int,int,int)",
        "long write(int,int,long)", "int copy(int,int,int,int,int)", "int lays(int)",
        "int book(int,int)", "int read(int,int)", "int image()", "int undo()", "int tear()",
        "int count(int)", "int status(int)"
    };

    private static void holds(String rule, boolean holds) {
        Check.due(rule, holds ? 1 : 0, 1);
    }

    private static String told(Method m) {
        StringBuilder b = new StringBuilder(m.getReturnType() + " " + m.getName() + "(");
        Class<?>[] types = m.getParameterTypes();
        for (int i = 0; i < types.length; i++) {
            b.append(i == 0 ? "" : ",").append(types[i]);
        }
        return b.append(")").toString();
    }

    /** Rule 1; gives the names of the face. */
    private static Set<String> face() {
        Class<PenAcres> c = PenAcres.class;
        holds("rule 1: public and final", Modifier.isPublic(c.getModifiers()) && Modifier.isFinal(c.getModifiers()));
        holds("rule 1: no package", c.getPackageName().isEmpty());
        Constructor<?>[] makers = c.getDeclaredConstructors();
        holds("rule 1: one constructor", makers.length == 1 && makers[0].getParameterCount() == 0
            && Modifier.isPublic(makers[0].getModifiers()));
        Set<String> want = new TreeSet<>(Set.of(FACE));
        Set<String> got = new TreeSet<>();
        Set<String> names = new TreeSet<>();
        for (Method m : c.getDeclaredMethods()) {
            if (Modifier.isPrivate(m.getModifiers())) {
                continue;
            }
            holds("rule 1: public: " + m, Modifier.isPublic(m.getModifiers()) && !Modifier.isStatic(m.getModifiers()));
            got.add(told(m));
            names.add(m.getName());
        }
        want.removeAll(got);
        holds("the face lacks " + want, want.isEmpty());
        got.removeAll(Set.of(FACE));
        holds("the face has " + got, got.isEmpty());
        for (Field f : c.getDeclaredFields()) {
            holds("rule 1: private: " + f, Modifier.isPrivate(f.getModifiers()));
        }
        return names;
    }

    /** Rules 1, 2, 5 and 11 of one class. */
    private static void oneClass(Class<?> c, Set<String> names) {
        int fields = 0;
        for (Field f : c.getDeclaredFields()) {
            if (Modifier.isStatic(f.getModifiers())) {
                holds("rule 5: final: " + f, Modifier.isFinal(f.getModifiers()));
            } else {
                fields++;
            }
        }
        holds("rule 11: fields of " + c, fields <= 20);
        for (Method m : c.getDeclaredMethods()) {
            holds("rule 11: parameters of " + m, m.getParameterCount() <= 7);
            if (c != PenAcres.class || Modifier.isPrivate(m.getModifiers())) {
                holds("rule 1: name of " + m, !names.contains(m.getName()));
            }
            for (String own : new String[] {"equals", "hashCode", "toString", "finalize"}) {
                holds("rule 6: no own " + own, !m.getName().equals(own));
            }
        }
    }

    private static void classes(Set<String> names) {
        Class<?>[] inside = PenAcres.class.getDeclaredClasses();
        holds("rule 11: classes", inside.length + 1 <= 13);
        oneClass(PenAcres.class, names);
        for (Class<?> c : inside) {
            holds("rule 2: static: " + c, Modifier.isStatic(c.getModifiers()));
            holds("rule 1: not public: " + c, !Modifier.isPublic(c.getModifiers()) && !Modifier.isProtected(c.getModifiers()));
            holds("rule 2: none inside: " + c, c.getDeclaredClasses().length == 0);
            oneClass(c, names);
        }
    }

    private static String plain(String source) {
        return source.replaceAll("(?s)/\\*.*?\\*/", " ").replaceAll("//[^\n]*", " ")
            .replaceAll("\"[^\"\n]*\"", "\"\"").replaceAll("'[^'\n]*'", "' '");
    }

    private static void words(String code) {
        String[] none = {"import", "package", "throw", "throws", "try", "catch", "finally", "synchronized",
            "assert", "volatile", "native", "transient", "protected", "Object", "getClass", "hashCode",
            "equals", "toString", "System\\.(?!arraycopy)", "Exception", "Error", "Random", "Thread"};
        for (String word : none) {
            holds("no " + word, !Pattern.compile("\\b" + word + "(\\b|(?<=\\.))").matcher(code).find());
        }
        for (String sign : new String[] {"->", "::", "@", "static {", "[][][]"}) {
            holds("no " + sign, !code.contains(sign));
        }
        holds("rule 4: none of the Exact ones", !Pattern.compile("\\w+Exact\\b").matcher(code).find());
        Matcher library = Pattern.compile("\\b(Math|Long|Integer|Arrays)\\.(\\w+)").matcher(code);
        while (library.find()) {
            holds("rule 4: " + library.group(), Set.of("min", "max", "bitCount").contains(library.group(2)));
        }
        for (int i = 0; i < code.length(); i++) {
            if (code.charAt(i) > 126) {
                holds("a sign above 126", false);
            }
        }
    }

    /** Rule 11: a method is some sixty lines at most. */
    private static void lengths(String source) {
        String[] lines = source.split("\n");
        int began = -1;
        int indent = 0;
        for (int i = 0; i < lines.length; i++) {
            String line = lines[i];
            int in = line.length() - line.stripLeading().length();
            if (line.endsWith(") {") && (in == 4 || in == 8) && !line.strip().matches("(if|for|while|switch|\\} else).*")) {
                began = i;
                indent = in;
            } else if (began >= 0 && line.equals(" ".repeat(indent) + "}")) {
                holds("rule 11: lines of " + lines[began].strip(), i - began <= 60);
                began = -1;
            }
        }
    }

    public static void main(String[] args) throws Exception {
        String source = Files.readString(Path.of(args.length > 0 ? args[0] : "src/main/java/PenAcres.java"));
        classes(face());
        words(plain(source));
        lengths(source);
        Check.end();
    }
}

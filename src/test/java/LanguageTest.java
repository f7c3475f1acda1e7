import java.io.IOException;
import java.lang.reflect.Field;
import java.lang.reflect.Member;
import java.lang.reflect.Method;
import java.lang.reflect.Modifier;
import java.nio.charset.StandardCharsets;
import java.nio.file.Files;
import java.nio.file.Path;
import java.util.ArrayList;
import java.util.List;
import java.util.Set;
import java.util.TreeSet;
import java.util.regex.Matcher;
import java.util.regex.Pattern;

/** The face of the class, and those rules of its language that can be told from its text. */
public final class LanguageTest {
    private static final Due T = new Due();

    private static final String FACE = "row(int,int,int):long set(int,int,int):long copy(int,int,int,int,int):long "
            + "drop(int):long feed(long,int):long stencils():long fault():int bay(int):long start(int,int):long "
            + "strip(int,int):long edge(int,int):long cell(int,int):long gauge(int,int,int,int):long out(int,int):long "
            + "wish(int):long slope(int,int):long push(int,int):long again(int,int,int):long move():int rest():int "
            + "keep():long lay(int):long apart(int,int):long kind(int):long as(int,int):long ask(int,int):long "
            + "trace(int):int count(int):long status():int";

    public static void main(String[] args) throws IOException {
        Path project = Path.of(args.length > 0 ? args[0] : ".");
        face();
        classes();
        text(Files.readString(project.resolve("src/main/java/BackBay.java"), StandardCharsets.UTF_8));
        T.end();
    }

    private static void face() {
        Set<String> due = new TreeSet<>(List.of(FACE.split(" ")));
        Set<String> got = new TreeSet<>();
        for (Method m : BackBay.class.getDeclaredMethods()) {
            if (isOpen(m)) {
                List<String> types = new ArrayList<>();
                for (Class<?> c : m.getParameterTypes()) {
                    types.add(c.getName());
                }
                got.add(m.getName() + "(" + String.join(",", types) + "):" + m.getReturnType().getName());
                T.holds(m + " is public", Modifier.isPublic(m.getModifiers()));
            } else {
                T.holds(m + " has a name of its own", !FACE.matches("(.* )?" + m.getName() + "\\(.*"));
            }
        }
        T.holds("the methods are those of the face: " + got, due.equals(got));
        for (Field f : BackBay.class.getDeclaredFields()) {
            boolean constant = f.getName().equals("NONE") || f.getName().equals("NOT");
            T.holds(f + " is open only if it is of the face", isOpen(f) == constant);
            T.holds(f + " is final if static", !Modifier.isStatic(f.getModifiers()) || Modifier.isFinal(f.getModifiers()));
        }
        T.due("constructors", BackBay.class.getDeclaredConstructors().length, 1);
        T.holds("the class is public and final", Modifier.isPublic(BackBay.class.getModifiers())
                && Modifier.isFinal(BackBay.class.getModifiers()));
    }

    private static boolean isOpen(Member m) {
        return !Modifier.isPrivate(m.getModifiers());
    }

    private static void classes() {
        Class<?>[] inside = BackBay.class.getDeclaredClasses();
        T.holds("some twelve classes", inside.length + 1 <= 12);
        for (Class<?> c : inside) {
            T.holds(c + " is static", Modifier.isStatic(c.getModifiers()));
            int fields = 0;
            for (Field f : c.getDeclaredFields()) {
                fields += Modifier.isStatic(f.getModifiers()) ? 0 : 1;
                T.holds(f + " is final if static", !Modifier.isStatic(f.getModifiers()) || Modifier.isFinal(f.getModifiers()));
            }
            T.holds(c + " has some twenty fields", fields <= 20);
            for (Method m : c.getDeclaredMethods()) {
                T.holds(m + " takes seven at the most", m.getParameterCount() <= 7);
            }
        }
    }

    private static void text(String source) {
        String code = source.replaceAll("(?s)/\\*.*?\\*/", " ").replaceAll("//[^\n]*", " ");
        for (String word : List.of("throw", "throws", "try", "catch", "finally", "synchronized", "assert", "volatile",
                "transient", "native", "package", "var", "equals", "hashCode", "toString", "Object", "Override",
                "Thread", "Random", "Exception", "Byte", "Short", "Character", "Boolean", "Double", "Float")) {
            T.holds("no " + word, !Pattern.compile("\\b" + word + "\\b").matcher(code).find());
        }
        T.holds("no lambda, no method reference", !code.contains("->") && !code.contains("::"));
        T.holds("only signs 1 to 127", source.chars().allMatch(c -> c >= 1 && c <= 127));
        onlyListed(code, "\\bimport\\s+([\\w.*]+)", Set.of("java.util.Arrays"));
        onlyListed(code, "\\bArrays\\.(\\w+)", Set.of("fill", "copyOf", "copyOfRange"));
        onlyListed(code, "\\bSystem\\.(\\w+)", Set.of("arraycopy"));
        onlyListed(code, "\\bMath\\.(\\w+)", Set.of("abs", "max", "min"));
        onlyListed(code, "\\bInteger\\.(\\w+)", Set.of());
        onlyListed(code, "\\bLong\\.(\\w+)", Set.of());
        methodLengths(source);
    }

    private static void onlyListed(String code, String pattern, Set<String> listed) {
        Matcher m = Pattern.compile(pattern).matcher(code);
        while (m.find()) {
            T.holds(m.group() + " is listed", listed.contains(m.group(1)));
        }
    }

    private static void methodLengths(String source) {
        String[] lines = source.split("\n");
        Pattern head = Pattern.compile("^( {4}| {8})(\\w[\\w\\[\\]]* )*\\w+\\(.*\\{$");
        for (int i = 0; i < lines.length; i++) {
            Matcher m = head.matcher(lines[i]);
            if (m.find()) {
                int end = i;
                while (end < lines.length && !lines[end].equals(m.group(1) + "}")) {
                    end++;
                }
                T.holds(lines[i].trim() + " is some sixty lines", end - i <= 60);
            }
        }
    }
}

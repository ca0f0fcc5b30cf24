import java.io.IOException;
import java.lang.reflect.Constructor;
import java.lang.reflect.Field;
import java.lang.reflect.Method;
import java.lang.reflect.Modifier;
import java.nio.file.Files;
import java.nio.file.Path;
import java.util.Arrays;
import java.util.Set;
import java.util.TreeSet;
import java.util.regex.Pattern;

/** The face of the document, and the rules of LANGUAGE.md that a program can look at. */
public final class LanguageTest {
    private static final Due due = new Due("language");
    private static final Set<String> FACE = new TreeSet<>(Arrays.asList(
        "plate(int,int,int,int)", "driver(int)", "drive(int,int,int)", "about(int,int)", "driven(int,int)", "fill()",
        "feed(long,int)", "law()", "fare(int,int,int,int)", "ask(int,int,int)", "stand(int,int)", "step(int)",
        "tried(int,int,int)", "found(int,int,int,int,int)", "rode(int,int)", "value(int,int,int)",
        "rent(int,int,int)", "loan(int,int,int)", "owes(int)", "fails(int,int)", "part(int,int)", "over(int,int)",
        "rescue(int,int,int,int)", "swap(int)", "unswap()", "spread(int)", "join(int)", "call(int)", "leave(int)",
        "count(int)"));
    private static final String[] FORBIDDEN = {"throw", "throws", "try", "catch", "finally", "synchronized", "assert",
        "import", "package", "protected", "native", "volatile", "transient", "strictfp", "Object", "System\\.(?!arraycopy)",
        "->", "::", "Exact\\b", "numberOf", "MAX_VALUE", "MIN_VALUE", "\\.equals", "hashCode", "toString", "double", "float"};

    public static void main(String[] args) throws IOException {
        face();
        members();
        source();
        due.end();
    }

    private static void face() {
        due.is("modifiers", PlateHire.class.getModifiers(), Modifier.PUBLIC | Modifier.FINAL);
        Set<String> seen = new TreeSet<>();
        for (Method m : PlateHire.class.getDeclaredMethods()) {
            if (!Modifier.isPrivate(m.getModifiers())) {
                due.is("modifiers of " + m, m.getModifiers(), Modifier.PUBLIC);
                due.is("int is answered by " + m, m.getReturnType() == int.class ? 1 : 0, 1);
                seen.add(signature(m));
            }
        }
        due.is("the face: " + seen, seen.equals(FACE) ? 1 : 0, 1);
        for (Constructor<?> c : PlateHire.class.getDeclaredConstructors()) {
            due.is("parameters of the constructor", c.getParameterCount(), 0);
            due.is("modifiers of the constructor", c.getModifiers(), Modifier.PUBLIC);
        }
        due.is("NONE", PlateHire.NONE, -1);
        due.is("BAD", PlateHire.BAD, -2);
        due.is("STATE", PlateHire.STATE, -3);
        due.is("FULL", PlateHire.FULL, -4);
    }

    private static String signature(Method m) {
        StringBuilder text = new StringBuilder(m.getName()).append('(');
        for (Class<?> c : m.getParameterTypes()) {
            text.append(text.charAt(text.length() - 1) == '(' ? "" : ",").append(c.getName());
        }
        return text.append(')').toString();
    }

    private static void members() {
        Set<String> publicNames = new TreeSet<>();
        for (String s : FACE) {
            publicNames.add(s.substring(0, s.indexOf('(')));
        }
        for (Method m : PlateHire.class.getDeclaredMethods()) {
            if (Modifier.isPrivate(m.getModifiers())) {
                due.is("a public name of " + m, publicNames.contains(m.getName()) ? 1 : 0, 0);
            }
        }
        fields(PlateHire.class);
        Class<?>[] inside = PlateHire.class.getDeclaredClasses();
        due.is("at most twelve classes", inside.length <= 11 ? 1 : 0, 1);
        for (Class<?> c : inside) {
            due.is("static: " + c, Modifier.isStatic(c.getModifiers()) ? 1 : 0, 1);
            fields(c);
            for (Method m : c.getDeclaredMethods()) {
                due.is("a public name of " + m, publicNames.contains(m.getName()) ? 1 : 0, 0);
                due.is("at most seven parameters: " + m, m.getParameterCount() <= 7 ? 1 : 0, 1);
            }
        }
    }

    private static void fields(Class<?> c) {
        Set<String> constants = new TreeSet<>(Arrays.asList("NONE", "BAD", "STATE", "FULL"));
        int own = 0;
        for (Field f : c.getDeclaredFields()) {
            boolean open = constants.contains(f.getName()) && c == PlateHire.class;
            due.is("private: " + f, Modifier.isPrivate(f.getModifiers()) || open ? 1 : 0, 1);
            if (Modifier.isStatic(f.getModifiers())) {
                due.is("final: " + f, Modifier.isFinal(f.getModifiers()) ? 1 : 0, 1);
            } else {
                own++;
            }
        }
        due.is("at most twenty fields: " + c, own <= 20 ? 1 : 0, 1);
    }

    private static void source() throws IOException {
        String text = Files.readString(Path.of("src/main/java/PlateHire.java"));
        String code = text.replaceAll("(?s)/\\*.*?\\*/", "").replaceAll("//[^\n]*", "");
        for (String word : FORBIDDEN) {
            String pattern = word.matches("\\w+") ? "\\b" + word + "\\b" : word;
            due.is("the source has " + word, Pattern.compile(pattern).matcher(code).find() ? 1 : 0, 0);
        }
        due.is("signs above 126", text.chars().filter(c -> c > 126).count(), 0);
        methodLengths(text.split("\n"));
    }

    /** A method ends where a line closes at the depth of the one that opened it. */
    private static void methodLengths(String[] lines) {
        Pattern opens = Pattern.compile("( {4}| {8})\\S.*\\) \\{");
        for (int i = 0; i < lines.length; i++) {
            if (opens.matcher(lines[i]).matches()) {
                String close = lines[i].substring(0, lines[i].length() - lines[i].stripLeading().length()) + "}";
                int end = i;
                while (end < lines.length - 1 && !lines[end].equals(close)) {
                    end++;
                }
                due.is("at most sixty lines from line " + (i + 1), end - i < 60 ? 1 : 0, 1);
            }
        }
    }
}

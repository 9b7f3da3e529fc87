import java.io.IOException;
import java.lang.reflect.Constructor;
import java.lang.reflect.Field;
import java.lang.reflect.Method;
import java.lang.reflect.Modifier;
import java.nio.file.Files;
import java.nio.file.Path;
import java.util.Arrays;
import java.util.Set;
import java.util.TreeSet;
import java.util.regex.Matcher;
import java.util.regex.Pattern;

/** The face of the document, and those rules of LANGUAGE.md that can be seen from the text of the class. */
public final class LanguageTest {
    private static final String[] FACE = {
        "long sum(int,long)", "long part(long,int)", "long prime(long,int)", "long chain(int,long,int)",
        "long step(int,long,int)", "int rings(int,int,int,int)", "int having(int,int,int,int)", "int wholly(int,int)",
        "int bare(int)", "long share(long,int)", "int friends(int,int,int)", "int reached(int,int,int)",
        "int records(int,int,int)", "int sort(int)", "int made(int)", "int falling(int,int,int,int)",
        "int write(int,long)", "int wipe()", "int fault()", "int wished(int,int)", "int holds(int)", "int count(int)"};
    private static final String[] WORDS = {"throw", "throws", "try", "catch", "synchronized", "assert", "volatile", "native",
        "protected", "System", "Random", "Object", "goto", "while", "Exact", "hashCode", "toString", "equals"};

    private static final Check check = new Check();

    public static void main(String[] args) throws IOException {
        face();
        names();
        text(Files.readString(Path.of(args.length > 0 ? args[0] : "src/main/java/GoesInto.java")));
        check.finish();
    }

    private static void face() {
        Set<String> methods = new TreeSet<>();
        for (Method m : GoesInto.class.getDeclaredMethods()) {
            if (!Modifier.isPrivate(m.getModifiers())) {
                StringBuilder told = new StringBuilder(m.getReturnType() + " " + m.getName() + "(");
                for (int i = 0; i < m.getParameterCount(); i++) {
                    told.append(i == 0 ? "" : ",").append(m.getParameterTypes()[i]);
                }
                methods.add(told.append(")").toString());
                check.due(m.getName() + " is public", m.getModifiers(), Modifier.PUBLIC);
            }
        }
        check.due("the methods are those of the document: " + methods, methods.equals(new TreeSet<>(Arrays.asList(FACE))) ? 1 : 0, 1);
        Set<String> constants = new TreeSet<>();
        for (Field f : GoesInto.class.getDeclaredFields()) {
            if (!Modifier.isPrivate(f.getModifiers())) {
                constants.add(f.getName());
            }
        }
        check.due("the constants: " + constants, constants.equals(Set.of("BAD", "NO", "FULL", "NONE")) ? 1 : 0, 1);
        Constructor<?>[] makers = GoesInto.class.getDeclaredConstructors();
        check.due("constructors", makers.length, 1);
        check.due("the class", GoesInto.class.getModifiers(), Modifier.PUBLIC | Modifier.FINAL);
    }

    /** No method inside bears a public one's name; the classes inside are static and few, with few fields. */
    private static void names() {
        Set<String> open = new TreeSet<>();
        for (String line : FACE) {
            open.add(line.substring(line.indexOf(' ') + 1, line.indexOf('(')));
        }
        Class<?>[] inside = GoesInto.class.getDeclaredClasses();
        check.due("at most twelve classes", inside.length + 1 <= 12 ? 1 : 0, 1);
        for (Method m : GoesInto.class.getDeclaredMethods()) {
            check.due(m.getName(), Modifier.isPrivate(m.getModifiers()) && open.contains(m.getName()) ? 1 : 0, 0);
        }
        for (Class<?> c : inside) {
            check.due(c + " is static", Modifier.isStatic(c.getModifiers()) ? 1 : 0, 1);
            check.due(c + " is not public", Modifier.isPublic(c.getModifiers()) ? 1 : 0, 0);
            int fields = 0;
            for (Field f : c.getDeclaredFields()) {
                fields += Modifier.isStatic(f.getModifiers()) ? 0 : 1;
                check.due(c + "." + f.getName() + " static and not final",
                    Modifier.isStatic(f.getModifiers()) && !Modifier.isFinal(f.getModifiers()) ? 1 : 0, 0);
            }
            check.due(c + " has few fields", fields <= 20 ? 1 : 0, 1);
            for (Method m : c.getDeclaredMethods()) {
                check.due(c + "." + m.getName(), open.contains(m.getName()) ? 1 : 0, 0);
                check.due(m + " takes few", m.getParameterCount() <= 7 ? 1 : 0, 1);
            }
        }
    }

    private static void text(String source) {
        String code = source.replaceAll("(?s)/\\*.*?\\*/", "").replaceAll("//[^\n]*", "").replaceAll("\"[^\"]*\"", "\"\"");
        for (String word : WORDS) {
            Matcher found = Pattern.compile("\\b" + word + "\\b").matcher(code);
            check.due("the word " + word, found.find() ? 1 : 0, 0);
        }
        check.due("no lambda", code.contains("->") ? 1 : 0, 0);
        check.due("no method reference", code.contains("::") ? 1 : 0, 0);
        Matcher imports = Pattern.compile("import ([^;]+);").matcher(code);
        while (imports.find()) {
            check.due("import " + imports.group(1), imports.group(1).equals("java.util.Arrays") ? 1 : 0, 1);
        }
        for (int i = 0; i < source.length(); i++) {
            if (source.charAt(i) > 126) {
                check.due("a sign above 126 at " + i, source.charAt(i), ' ');
            }
        }
        shortMethods(source);
    }

    /** A method's body ends with the first brace at its own depth. */
    private static void shortMethods(String source) {
        String[] lines = source.split("\n");
        Pattern head = Pattern.compile("^( +)(public |private |static |final )*[\\w\\[\\]]+ \\w+\\([^;=]*\\) \\{$");
        for (int i = 0; i < lines.length; i++) {
            Matcher m = head.matcher(lines[i]);
            if (m.matches()) {
                int end = i;
                while (end < lines.length && !lines[end].equals(m.group(1) + "}")) {
                    end++;
                }
                check.due("short: " + lines[i].trim(), end - i <= 60 ? 1 : 0, 1);
            }
        }
    }
}

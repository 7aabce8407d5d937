import java.io.IOException;
import java.lang.reflect.Constructor;
import java.lang.reflect.Field;
import java.lang.reflect.Method;
import java.lang.reflect.Modifier;
import java.nio.file.Files;
import java.nio.file.Path;
import java.util.List;
import java.util.Set;
import java.util.TreeSet;
import java.util.regex.Matcher;
import java.util.regex.Pattern;

/** Rules of ../shared/LANGUAGE.md that a test can see, and the document's public face. */
public final class LanguageTest {
    private static final Checks CHECKS = new Checks();
    private static final Set<String> FACE = Set.of("int feed(int,int,int,int,int)", "int back(int)", "int read()",
        "int place()", "int lay(int,int,int,int,boolean)", "boolean goes(int)", "boolean twist(int)", "boolean flip(int)",
        "boolean exchange(int,int)", "int lessen()", "int dual()", "boolean shrink(int)", "boolean undo()",
        "int line(int,int)", "int round(int,int)", "int face(int,int)", "int surface(int)", "long all(int)",
        "int needing(int)", "int ordered(int,int,int)", "int capped()", "int bound(int)", "int without(int,int)",
        "int beside(int)", "int colours()", "int like(int)", "boolean hold(int)", "boolean restore(int)",
        "int count(int)");

    public static void main(String[] args) throws IOException {
        face();
        classesInside();
        source(Files.readString(Path.of("src/main/java/HandleFaces.java")));
        CHECKS.end();
    }

    private static void rule(String what, boolean kept) {
        CHECKS.due(what, kept, true);
    }

    private static void face() {
        Set<String> found = new TreeSet<>();
        for (Method m : HandleFaces.class.getDeclaredMethods()) {
            if (Modifier.isPublic(m.getModifiers())) {
                StringBuilder s = new StringBuilder(m.getReturnType() + " " + m.getName() + "(");
                for (Class<?> c : m.getParameterTypes()) {
                    s.append(s.charAt(s.length() - 1) == '(' ? "" : ",").append(c);
                }
                found.add(s.append(')').toString());
            } else {
                rule(m + " is private", Modifier.isPrivate(m.getModifiers()));
                rule(m + " bears a public name", FACE.stream().noneMatch(f -> f.contains(" " + m.getName() + "(")));
            }
        }
        rule("public methods: " + found, found.equals(new TreeSet<>(FACE)));
        for (Field f : HandleFaces.class.getDeclaredFields()) {
            rule(f + " is private or NONE", Modifier.isPrivate(f.getModifiers()) || f.getName().equals("NONE"));
            rule(f + " is final if static", !Modifier.isStatic(f.getModifiers()) || Modifier.isFinal(f.getModifiers()));
        }
        Constructor<?>[] made = HandleFaces.class.getDeclaredConstructors();
        rule("one public constructor", made.length == 1 && Modifier.isPublic(made[0].getModifiers())
            && made[0].getParameterCount() == 0);
        int modifiers = HandleFaces.class.getModifiers();
        rule("the class is public and final", Modifier.isPublic(modifiers) && Modifier.isFinal(modifiers));
    }

    private static void classesInside() {
        Class<?>[] inside = HandleFaces.class.getDeclaredClasses();
        rule("some twelve classes", inside.length <= 12);
        for (Class<?> c : inside) {
            rule(c + " is static", Modifier.isStatic(c.getModifiers()));
            rule(c + " is not public", !Modifier.isPublic(c.getModifiers()) && !Modifier.isProtected(c.getModifiers()));
            int fields = 0;
            for (Field f : c.getDeclaredFields()) {
                fields += Modifier.isStatic(f.getModifiers()) ? 0 : 1;
                rule(f + " is final if static", !Modifier.isStatic(f.getModifiers()) || Modifier.isFinal(f.getModifiers()));
            }
            rule(c + " has some twenty fields", fields <= 20);
            for (Method m : c.getDeclaredMethods()) {
                rule(m + " has seven parameters", m.getParameterCount() <= 7);
                rule(m + " bears a public name", FACE.stream().noneMatch(f -> f.contains(" " + m.getName() + "(")));
            }
        }
    }

    private static void source(String text) {
        String code = text.replaceAll("(?s)/\\*.*?\\*/", "").replaceAll("//[^\n]*", "");
        String plain = code.replaceAll("\"[^\"]*\"", "\"\"");
        for (String word : List.of("throw", "throws", "try", "catch", "finally", "synchronized", "assert", "package",
                "System.out", "Random", "Thread", "Object", "Exact", "double", "float", "protected")) {
            rule("no " + word, !Pattern.compile("\\b" + Pattern.quote(word) + "\\b").matcher(plain).find());
        }
        rule("no lambda", !plain.contains("->"));
        rule("no method reference", !plain.contains("::"));
        rule("no static block", !Pattern.compile("static\\s*\\{").matcher(plain).find());
        rule("no array or list made in a method", countOf("\\bnew (int|long|byte|boolean)\\[", plain)
            == countOf("(private )?final (int|long|byte|boolean)\\[\\] \\w+ = new|this\\.cells = new", plain));
        Matcher imports = Pattern.compile("import ([^;]+);").matcher(plain);
        while (imports.find()) {
            rule(imports.group(), imports.group(1).matches("java\\.util\\.(Arrays|ArrayList|List)"));
        }
        lengths(text);
    }

    private static int countOf(String pattern, String text) {
        return (int) Pattern.compile(pattern).matcher(text).results().count();
    }

    /** Methods stand at one or two levels' indent and end at the first line with the same indent and a brace. */
    private static void lengths(String text) {
        String[] lines = text.split("\n");
        for (int from = 0; from < lines.length; from++) {
            Matcher m = Pattern.compile("^( {4}| {8})(?!for|if|while|switch|private static final class)\\S.*\\) \\{$")
                .matcher(lines[from]);
            if (m.find()) {
                int to = from;
                while (to < lines.length - 1 && !lines[to].equals(m.group(1) + "}")) {
                    to++;
                }
                rule("some sixty lines at most: " + lines[from].trim(), to - from <= 60);
            }
        }
    }
}

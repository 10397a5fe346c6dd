import java.io.IOException;
import java.lang.reflect.Field;
import java.lang.reflect.Method;
import java.lang.reflect.Modifier;
import java.nio.file.Files;
import java.nio.file.Path;
import java.util.ArrayList;
import java.util.List;
import java.util.Set;
import java.util.TreeSet;
import java.util.regex.Matcher;
import java.util.regex.Pattern;

/** What of ../shared/LANGUAGE.md can be seen from the source's words and from the classes' members. */
public final class LanguageTest {
    private static final Path SOURCE = Path.of("src/main/java/BoatsCalledIn.java");

    public static void main(String[] args) throws IOException {
        String source = Files.readString(SOURCE);
        String code = codeAlone(source);
        signs(source);
        words(code);
        library(code);
        methodLengths(code);
        List<Class<?>> classes = new ArrayList<>(List.of(BoatsCalledIn.class.getDeclaredClasses()));
        classes.add(BoatsCalledIn.class);
        none("rule 11: more than 12 classes", classes.size() > 12 ? "" + classes.size() : null);
        for (Class<?> c : classes) {
            members(c);
        }
        Check.end();
    }

    private static void none(String rule, String found) {
        Check.due(rule + (found == null ? "" : ": " + found), found == null ? 0 : 1, 0);
    }

    /** The source without comments, and without what stands between quotes. */
    private static String codeAlone(String source) {
        return source.replaceAll("(?s)/\\*.*?\\*/", "").replaceAll("//[^\n]*", "")
            .replaceAll("\"(\\\\.|[^\"\\\\\n])*\"", "\"\"").replaceAll("'(\\\\.|[^'\\\\])'", "' '");
    }

    private static String first(String pattern, String text) {
        Matcher m = Pattern.compile(pattern).matcher(text);
        return m.find() ? m.group() : null;
    }

    private static void signs(String source) {
        none("rule 4: signs are 1 to 127", first("[^\\x01-\\x7f]", source));
    }

    private static void words(String code) {
        none("one file without a package", first("\\bpackage\\b", code));
        none("rules 6 and 8: no such word", first("\\b(throw|throws|try|catch|finally|synchronized|assert)\\b", code));
        none("rule 2: no lambda, no method reference", first("->|::", code));
        none("rule 5: no static block", first("\\bstatic\\s*\\{", code));
        none("rule 13: no such thing", first("\\b(Thread|Random|Runtime|nanoTime|currentTimeMillis|getenv|volatile|native)\\b", code));
        none("rule 6: no such method", first("\\b(equals|hashCode|toString|identityHashCode)\\s*\\(", code));
        none("rule 10: a text isn't joined by +", first("\"\"\\s*\\+|\\+\\s*\"\"", code));
    }

    /** Only the library that rule 4 lists, of what this class uses at all: it has no lists and makes no texts. */
    private static void library(String code) {
        Set<String> may = Set.of("System.arraycopy", "Arrays.copyOf", "Arrays.copyOfRange", "Arrays.fill", "Math.abs", "Math.max",
            "Math.min", "Integer.bitCount");
        Matcher used = Pattern.compile("\\b(System|Arrays|Math|Integer|Long|Character|String|Objects)\\s*\\.\\s*\\w+").matcher(code);
        while (used.find()) {
            none("rule 4: the library", may.contains(used.group()) ? null : used.group());
        }
        Matcher imports = Pattern.compile("\\bimport\\s+([^;]+);").matcher(code);
        while (imports.find()) {
            none("rule 4: imports", imports.group(1).equals("java.util.Arrays") ? null : imports.group(1));
        }
    }

    private static void methodLengths(String code) {
        Matcher head = Pattern.compile("(?m)^( +)[^\n;={}]*\\)\\s*\\{\n").matcher(code);
        while (head.find()) {
            int end = code.indexOf("\n" + head.group(1) + "}", head.start());
            long lines = code.substring(head.start(), end).lines().count();
            none("rule 11: methods of some sixty lines", lines > 60 ? head.group().trim() + " has " + lines : null);
        }
    }

    private static void members(Class<?> c) {
        String name = c.getSimpleName();
        boolean outer = c == BoatsCalledIn.class;
        int modifiers = c.getModifiers();
        none("rule 2: classes inside are static", outer || Modifier.isStatic(modifiers) ? null : name);
        none("rule 1: classes inside are not public",
            outer || !Modifier.isPublic(modifiers) && !Modifier.isProtected(modifiers) ? null : name);
        Set<String> face = new TreeSet<>();
        for (Method m : BoatsCalledIn.class.getDeclaredMethods()) {
            if (Modifier.isPublic(m.getModifiers())) {
                face.add(m.getName());
            }
        }
        for (Method m : c.getDeclaredMethods()) {
            boolean own = !(outer && Modifier.isPublic(m.getModifiers()));
            none("rule 1: no other method bears a public one's name", own && face.contains(m.getName()) ? name + "." + m.getName() : null);
            none("rule 11: seven parameters", m.getParameterCount() > 7 ? name + "." + m.getName() : null);
        }
        fields(c, name);
    }

    private static void fields(Class<?> c, String name) {
        int own = 0;
        for (Field f : c.getDeclaredFields()) {
            boolean isStatic = Modifier.isStatic(f.getModifiers());
            own += isStatic ? 0 : 1;
            none("rule 5: static fields are final", isStatic && !Modifier.isFinal(f.getModifiers()) ? name + "." + f.getName() : null);
            boolean listed = Set.of(int.class, long.class, boolean.class, char.class, String.class, int[].class, long[].class,
                char[].class, byte[].class).contains(f.getType());
            none("rule 5: static fields are constants or rows", isStatic && !listed ? name + "." + f.getName() : null);
        }
        none("rule 11: some twenty fields", own > 20 ? name + " has " + own : null);
    }
}

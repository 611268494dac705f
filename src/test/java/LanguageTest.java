import java.io.IOException;
import java.lang.reflect.Field;
import java.lang.reflect.Method;
import java.lang.reflect.Modifier;
import java.nio.file.Files;
import java.nio.file.Path;
import java.util.List;
import java.util.Set;
import java.util.regex.Matcher;
import java.util.regex.Pattern;

/**
 * Those rules of LANGUAGE.md that can be seen in the source's words, or in the compiled class.
 * Run from the project's directory; the other rules are kept by reading.
 */
public final class LanguageTest {
    private static final Path SOURCE = Path.of("src/main/java/TreeFiles.java");
    private static final String[] NOT_USED = {
        "->", "::", "try", "catch", "finally", "synchronized", "assert", "instanceof", "package", "native", "volatile",
        "equals", "hashCode", "toString", "Object", "Random", "Thread", "nanoTime", "currentTimeMillis", "new int[][",
    };
    private static final Set<String> THROWN =
        Set.of("IllegalArgumentException", "IllegalStateException", "NoSuchElementException");
    private static final Set<Class<?>> CONSTANTS =
        Set.of(int.class, long.class, boolean.class, char.class, String.class);
    private static final int MOST_CLASSES = 12;
    private static final int MOST_FIELDS = 20;
    private static final int MOST_LINES = 60;
    private static final int MOST_PARAMETERS = 7;

    private static final Check CHECK = new Check();

    public static void main(String[] args) throws IOException {
        String code = withoutCommentsAndTexts(Files.readString(SOURCE));
        words(code);
        library(code);
        exceptions(code);
        lengths(code);
        classes();
        CHECK.end();
    }

    private static String withoutCommentsAndTexts(String source) {
        return source.replaceAll("\"[^\"\n]*\"", "\"\"").replaceAll("(?s)/\\*.*?\\*/", "").replaceAll("//[^\n]*", "");
    }

    private static List<String> found(String regex, String code) {
        Matcher matcher = Pattern.compile(regex).matcher(code);
        return matcher.results().map(m -> m.group(1)).toList();
    }

    private static void words(String code) {
        for (String word : NOT_USED) {
            String edge = Character.isLetter(word.charAt(0)) ? "\\b" : "";
            CHECK.due("rules 2 to 6, 13: uses of " + word,
                found(edge + "(" + Pattern.quote(word) + ")", code).size(), 0);
        }
        CHECK.due("rule 5: static initialiser blocks", found("(static\\s*\\{)", code).size(), 0);
    }

    private static void library(String code) {
        List<String> imports = found("import ([^;]*);", code);
        if (!imports.equals(List.of("java.util.NoSuchElementException"))) {
            CHECK.tell("rule 4: imports are " + imports);
        }
        Set<String> used = Set.copyOf(found("\\b((?:Math|System|Integer|Long|Arrays|String|List)\\.\\w+)", code));
        if (!Set.of("Math.max", "Math.min", "System.arraycopy").containsAll(used)) {
            CHECK.tell("rule 4: of the library the class uses " + used);
        }
    }

    private static void exceptions(String code) {
        int throwing = found("\\b(throw)\\b", code).size();
        List<String> thrown = found("throw new (\\w+)\\(\"\"\\);", code);
        CHECK.due("rule 6: throws of another form", throwing - thrown.size(), 0);
        if (!THROWN.containsAll(thrown)) {
            CHECK.tell("rule 6: thrown are " + thrown);
        }
    }

    /** By the indentation that the file keeps: a member of a class ends with a brace that stands as deep as it. */
    private static void lengths(String code) {
        for (String depth : new String[] {"    ", "        "}) {
            List<String> members = found("(?s)(\n" + depth + "\\S[^\n]*\\) [^\n]*\\{\n.*?\n" + depth + "\\}\n)", code);
            if (members.isEmpty()) {
                CHECK.tell("rule 11: no method seen");
            }
            for (String member : members) {
                String head = member.strip().lines().findFirst().orElse("");
                int lines = (int) member.strip().lines().count();
                CHECK.due("rule 11: lines above " + MOST_LINES + " of " + head, Math.max(0, lines - MOST_LINES), 0);
            }
        }
    }

    private static void classes() {
        Class<?>[] inside = TreeFiles.class.getDeclaredClasses();
        CHECK.due("rule 11: classes above 12", Math.max(0, inside.length + 1 - MOST_CLASSES), 0);
        fields(TreeFiles.class);
        parameters(TreeFiles.class);
        for (Class<?> c : inside) {
            int modifiers = c.getModifiers();
            CHECK.due("rule 1: " + c + " is static", Modifier.isStatic(modifiers) ? 1 : 0, 1);
            CHECK.due("rule 1: " + c + " is seen outside",
                Modifier.isPublic(modifiers) || Modifier.isProtected(modifiers) ? 1 : 0, 0);
            fields(c);
            parameters(c);
        }
    }

    private static void parameters(Class<?> c) {
        for (Method m : c.getDeclaredMethods()) {
            CHECK.due("rule 11: parameters above 7 of " + m, Math.max(0, m.getParameterCount() - MOST_PARAMETERS), 0);
        }
    }

    private static void fields(Class<?> c) {
        int own = 0;
        for (Field f : c.getDeclaredFields()) {
            if (Modifier.isStatic(f.getModifiers())) {
                CHECK.due("rule 5: " + f + " is a constant",
                    Modifier.isFinal(f.getModifiers()) && CONSTANTS.contains(f.getType()) ? 1 : 0, 1);
            } else {
                own++;
            }
        }
        CHECK.due("rule 11: fields above 20 of " + c, Math.max(0, own - MOST_FIELDS), 0);
    }
}

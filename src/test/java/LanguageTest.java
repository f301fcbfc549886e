import java.nio.file.Files;
import java.nio.file.Path;
import java.util.List;
import java.util.Set;
import java.util.TreeSet;
import java.util.regex.Matcher;
import java.util.regex.Pattern;

/** What of LANGUAGE.md can be seen in the text of the program. */
public final class LanguageTest {
    private static final int MOST_LINES = 60;
    private static final Set<String> LIBRARY = Set.of("Arrays.fill", "System.arraycopy", "Math.min", "Math.max",
            "Long.bitCount");
    private static final Set<String> THROWN = Set.of("IndexOutOfBoundsException", "IllegalArgumentException",
            "IllegalStateException");

    public static void main(String[] arguments) throws Exception {
        String source = Files.readString(Path.of(arguments[0]));
        String code = source.replaceAll("(?s)/\\*.*?\\*/", "").replaceAll("//[^\n]*", "");
        words(code);
        library(code);
        thrown(code);
        staticFields(code);
        lengths(source);
        Check.end("LanguageTest");
    }

    private static void never(String code, String pattern) {
        Matcher m = Pattern.compile(pattern).matcher(code);
        Check.sameText("the program has " + pattern, m.find() ? m.group() : "", "");
    }

    private static void words(String code) {
        for (String word : List.of("package", "try", "catch", "finally", "synchronized", "assert", "native",
                "volatile", "transient", "instanceof", "protected", "float", "double", "equals", "hashCode",
                "toString", "throwable", "null")) {
            never(code, "\\b" + word + "\\b");
        }
        never(code, "->");
        never(code, "::");
        never(code, "@");
        never(code, "static\\s*\\{");
        never(code, "[^\\x0a\\x20-\\x7e]");
        // No loop without a bound that can be seen.
        never(code, "\\bwhile\\b");
        never(code, "for \\([^;]*;\\s*;");
    }

    private static Set<String> all(String code, String pattern) {
        Set<String> found = new TreeSet<>();
        Matcher m = Pattern.compile(pattern).matcher(code);
        while (m.find()) {
            found.add(m.group(1));
        }
        return found;
    }

    private static void library(String code) {
        for (String used : all(code, "\\b([A-Z]\\w*\\.[a-z]\\w*)\\(")) {
            Check.same(used + " is of the library that is used", LIBRARY.contains(used) ? 1 : 0, 1);
        }
        for (String imported : all(code, "(?m)^import ([^;]*);")) {
            Check.sameText("import", imported, "java.util.Arrays");
        }
    }

    private static void thrown(String code) {
        for (String thrown : all(code, "\\bthrow (.*)")) {
            Matcher m = Pattern.compile("new (\\w+)\\(\"[^\"]*\"\\);").matcher(thrown);
            Check.same(thrown + " is a throw of the document", m.matches() && THROWN.contains(m.group(1)) ? 1 : 0, 1);
        }
    }

    private static void staticFields(String code) {
        for (String field : all(code, "(?m)^ *((?:\\w+ )*static [^(\\n]*(?:=|;).*)$")) {
            Check.same(field + " is final", field.contains(" final ") ? 1 : 0, 1);
        }
    }

    /** Methods of some sixty lines; the text is laid out so that each ends at its own depth. */
    private static void lengths(String source) {
        String[] lines = source.split("\n");
        for (String indent : List.of("    ", "        ")) {
            int start = -1;
            for (int i = 0; i < lines.length; i++) {
                if (lines[i].startsWith(indent) && lines[i].endsWith("{") && lines[i].contains(")")
                        && lines[i].charAt(indent.length()) != ' ') {
                    start = i;
                } else if (lines[i].equals(indent + "}") && start >= 0) {
                    Check.same(lines[start].trim() + " is short", i - start < MOST_LINES ? 1 : 0, 1);
                    start = -1;
                }
            }
        }
        for (String line : lines) {
            Check.same("the length of: " + line, line.length() <= 120 ? 1 : 0, 1);
        }
    }
}

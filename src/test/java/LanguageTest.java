import java.io.IOException;
import java.nio.file.Files;
import java.nio.file.Path;
import java.util.regex.Matcher;
import java.util.regex.Pattern;

/** The rules of LANGUAGE.md that can be seen in the program's text without understanding it. */
public final class LanguageTest {
    private static final String[][] FORBIDDEN = {
        {"rule 2: a lambda", "->"}, {"rule 2: a method reference", "::"},
        {"rule 4: an import", "^import (?!java\\.util\\.(NoSuchElementException|Arrays|ArrayList|List|Iterator);)"},
        {"rule 4: an exact function", "\\w+Exact\\b"},
        {"rule 4: a function of Float, Double or Character", "\\b(Float|Double|Character|Objects|String)\\.\\w"},
        {"rule 4: a constant of Integer or Long", "\\b(Integer|Long)\\.[A-Z]"},
        {"rule 4: System but for arraycopy", "\\bSystem\\.(?!arraycopy)"},
        {"rule 5: a static field that is not final", "\\bstatic (?!final|class|boolean|int|long|Word)"},
        {"rule 5: a static initialiser", "\\bstatic \\{"},
        {"rule 6: a catch", "\\b(try|catch|finally|synchronized|assert)\\b"},
        {"rule 6: another exception", "\\bthrow (?!new (IllegalArgumentException|IndexOutOfBoundsException|NoSuchElementException)\\(\\);)"},
        {"rule 6: equals, hashCode, toString", "\\b(equals|hashCode|toString|getClass|ordinal|name|valueOf)\\("},
        {"rule 10: joined texts", "\" \\+|\\+ \""},
        {"rule 13: the outside", "\\b(Random|Thread|File|nanoTime|currentTimeMillis|getenv|getProperty|println)\\b"},
        {"a character beyond 127", "[^\\x00-\\x7f]"}};

    private LanguageTest() {
    }

    private static String withoutComments(String text) {
        return text.replaceAll("(?s)/\\*.*?\\*/", "").replaceAll("//[^\n]*", "");
    }

    private static void methodsAreShort(String text) {
        Matcher method = Pattern.compile("(?m)^( {4}| {8})\\w[^=;\n]*\\(([^)]*)\\)[^;=\n]*\\{\n").matcher(text);
        int found = 0;
        while (method.find()) {
            int end = text.indexOf("\n" + method.group(1) + "}", method.end());
            long lines = text.substring(method.start(), end).chars().filter(c -> c == '\n').count();
            String head = method.group().trim();
            Checks.due("rule 11: at most sixty lines: " + head, lines <= 60 ? 1 : 0, 1);
            Checks.due("rule 11: at most seven parameters: " + head, method.group(2).split(",").length <= 7 ? 1 : 0, 1);
            found++;
        }
        Checks.due("methods were found", found > 100 ? 1 : 0, 1);
    }

    public static void main(String[] args) throws IOException {
        String text = withoutComments(Files.readString(Path.of("src/main/java/PairRules.java")));
        for (String[] rule : FORBIDDEN) {
            Matcher matcher = Pattern.compile(rule[1], Pattern.MULTILINE).matcher(text);
            while (matcher.find()) {
                int from = text.lastIndexOf('\n', matcher.start()) + 1;
                Checks.due(rule[0] + " in: " + text.substring(from, text.indexOf('\n', matcher.end())).trim(), 1, 0);
            }
            Checks.due(rule[0], 0, 0);
        }
        methodsAreShort(text);
        Checks.end();
    }
}

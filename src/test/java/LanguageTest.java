import java.io.IOException;
import java.nio.file.Files;
import java.nio.file.Path;
import java.util.regex.Matcher;
import java.util.regex.Pattern;

/** What of LANGUAGE.md can be seen from the text of the class alone. */
final class LanguageTest {
    private static final String[] NEVER = {
        "\\bpackage\\b", "\\bfinally\\b", "\\bsynchronized\\b", "\\bassert\\b", "\\btry\\s*\\(", "::",
        "(?m)^(?!\\s*(case|default)\\b).*->", "\\bObject\\b",
        "\\bhashCode\\b", "\\btoString\\(\\)\\s*\\{", "\\bgetMessage\\b", "\\b\\w+Exact\\b", "\\bstatic\\s*\\{",
        "\\bThread\\b", "\\bThrowable\\b", "\\bError\\b", "\\bSystem\\.(?!arraycopy)", "\\bprotected\\b", "@",
        "\\bimport\\b(?! java\\.util\\.(ArrayList|List|Iterator|Arrays|NoSuchElementException);)",
        "\\bcatch\\s*\\((?!(IllegalState|IllegalArgument|IndexOutOfBounds|Arithmetic|UnsupportedOperation|NoSuchElement"
                + "|Runtime)(Exception)\\b)",
    };
    private static final Pattern THROWN = Pattern.compile("\\bthrow\\b\\s*(.*?);", Pattern.DOTALL);
    private static final Pattern NEW_THROWN = Pattern.compile(
            "new (IndexOutOfBounds|IllegalArgument|IllegalState|Arithmetic|UnsupportedOperation|NoSuchElement|Runtime)"
            + "Exception\\((\"\")?\\)");
    private static final Pattern STATIC_FIELD = Pattern.compile("\\bstatic\\b(?!\\s+final)[^;({]*[;=]");
    private static final int LONGEST_METHOD = 60;

    private LanguageTest() {
    }

    static void run(Path file) throws IOException {
        String source = Files.readString(file);
        String code = bare(source);
        for (String word : NEVER) {
            Matcher matcher = Pattern.compile(word).matcher(code);
            Check.that("the class has " + word, !matcher.find());
        }
        Check.that("a static field is not final", !STATIC_FIELD.matcher(code).find());
        throwsOnlyItsOwn(code);
        signsAreSmall(source);
        methodsAreShort(code);
    }

    private static void throwsOnlyItsOwn(String code) {
        Matcher matcher = THROWN.matcher(code);
        int seen = 0;
        while (matcher.find()) {
            seen++;
            Check.that("thrown is " + matcher.group(1), NEW_THROWN.matcher(matcher.group(1).trim()).matches());
        }
        Check.that("something is thrown", seen > 0);
    }

    private static void signsAreSmall(String source) {
        for (int i = 0; i < source.length(); i++) {
            if (source.charAt(i) > 127) {
                Check.that("a sign that is not plain stands at " + i, false);
            }
        }
    }

    // A method begins at a line that ends with an opening brace behind a closing parenthesis or a throws clause.
    private static void methodsAreShort(String code) {
        String[] lines = code.split("\n");
        Pattern end = Pattern.compile("^( {4}| {8})\\}$");
        Pattern begin = Pattern.compile("^( {4}| {8})\\S.*\\(.*");
        int began = -1;
        for (int i = 0; i < lines.length; i++) {
            if (began < 0 && begin.matcher(lines[i]).matches()) {
                began = i;
            } else if (began >= 0 && end.matcher(lines[i]).matches()) {
                Check.that("the method at line " + (began + 1) + " is too long", i - began < LONGEST_METHOD);
                began = -1;
            }
        }
    }

    /** The code without comments and without what stands in quotes; lines stay where they are. */
    private static String bare(String source) {
        StringBuilder code = new StringBuilder();
        int i = 0;
        while (i < source.length()) {
            int end = i + 1;
            if (source.startsWith("//", i)) {
                end = source.indexOf('\n', i);
            } else if (source.startsWith("/*", i)) {
                end = source.indexOf("*/", i) + 2;
                source.substring(i, end).chars().filter(c -> c == '\n').forEach(c -> code.append('\n'));
            } else if (source.charAt(i) == '"') {
                end = source.indexOf('"', i + 1) + 1;
                code.append("\"\"");
            } else {
                code.append(source.charAt(i));
            }
            i = end;
        }
        return code.toString();
    }
}

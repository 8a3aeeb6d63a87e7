import java.io.IOException;
import java.nio.charset.StandardCharsets;
import java.nio.file.Files;
import java.nio.file.Path;
import java.util.regex.Matcher;
import java.util.regex.Pattern;

/** Those rules of LANGUAGE.md that the text of the class shows. It runs in the project's folder. */
public final class RuleTest {
    private static final Check check = new Check("RuleTest");
    private static final String[] BANNED = {"finally", "synchronized", "assert", "protected", "package", "Object",
        "getClass", "getMessage", "hashCode", "System\\.(?!arraycopy)", "Thread", "Random", "native", "volatile",
        "catch \\((?:Exception|Throwable|Error|NullPointerException|ClassCastException|NegativeArraySizeException"
        + "|ArrayIndexOutOfBoundsException|ArrayStoreException)"};

    private RuleTest() {
    }

    public static void main(String[] args) throws IOException {
        String source = Files.readString(Path.of("src/main/java/HostBench.java"), StandardCharsets.UTF_8);
        String code = source.replaceAll("(?s)/\\*.*?\\*/", "").replaceAll("//[^\n]*", "")
                .replaceAll("\"[^\"\n]*\"", "\"\"");
        for (String word : BANNED) {
            check.same("uses of " + word, count(code, "\\b" + word), 0);
        }
        check.same("lambdas", count(code, "[=(,] *(?:\\w+|\\([\\w, ]*\\)) *->"), 0);
        check.same("method references", count(code, "::"), 0);
        check.same("imports of other classes", count(code, "\\bimport (?!java\\.util\\.(?:NoSuchElementException|ArrayList|List"
                + "|Arrays|Iterator);)"), 0);
        check.same("throws of other classes", count(code, "\\bthrow (?!new (IllegalStateException"
                + "|IllegalArgumentException|IndexOutOfBoundsException|ArithmeticException|UnsupportedOperationException"
                + "|NoSuchElementException|RuntimeException)\\((?:\"\")?\\);)"), 0);
        check.same("calls that end in Exact", count(code, "\\bMath\\.\\w*Exact\\b"), 0);
        check.same("static fields that change", count(code, "\\bstatic (?!final\\b)[\\w\\[\\]<>]+ \\w+ *[=;]"), 0);
        check.same("parameters beyond seven", count(code, "\\((?:int \\w+, ){7,}"), 0);
        methodsAreShort(code);
        check.finish();
    }

    private static int count(String code, String pattern) {
        Matcher m = Pattern.compile(pattern).matcher(code);
        int found = 0;
        while (m.find()) {
            found++;
        }
        return found;
    }

    /** A method starts at a line that ends with ") .. {" in its class, and ends at a brace as deep. */
    private static void methodsAreShort(String code) {
        String[] lines = code.split("\n");
        Pattern start = Pattern.compile("( {4}| {8})(?! )\\S.*\\).*\\{");
        int methods = 0;
        for (int i = 0; i < lines.length; i++) {
            Matcher m = start.matcher(lines[i]);
            if (m.matches() && lines[i].matches(" *(public|private|static|boolean|int|void|[A-Z]).*")) {
                int last = i;
                while (!lines[last].equals(m.group(1) + "}")) {
                    last++;
                }
                methods++;
                check.isTrue(lines[i].trim() + " has at most sixty lines", last - i < 60);
            }
        }
        check.isTrue("methods are found", methods >= 20);
    }
}

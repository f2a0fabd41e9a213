import java.io.IOException;
import java.nio.charset.StandardCharsets;
import java.nio.file.Files;
import java.nio.file.Path;
import java.util.List;
import java.util.regex.Matcher;
import java.util.regex.Pattern;

/** Rules of LANGUAGE.md that can be seen in the words of the source. */
public final class SourceTest {
    private static final Path SOURCE = Path.of("src/main/java/AliasStreams.java");
    private static final List<String> REFUSED = List.of(
        "\\bpackage\\b", "\\bimport\\s+(?!java\\.util\\.(ArrayList|List|Arrays|Iterator|NoSuchElementException);).*",
        "\\bfinally\\b", "\\bsynchronized\\b", "\\bassert\\b", "\\bprotected\\b", "\\bstatic\\s*\\{", "\\w+Exact\\b",
        "\\bThread\\b", "\\bRandom\\b", "\\bFile\\w*\\b", "\\bgetMessage\\b", "\\bSystem\\.(?!arraycopy\\b)\\w+",
        "\\bcatch\\s*\\(\\s*(ArrayIndex|NullPointer|ClassCast|NegativeArray|ArrayStore|Exception|Throwable|Error)\\w*",
        "::", "(?m)^(?!\\s*(case\\b|default\\b)).*->", "\\bMath\\.(random|sqrt|pow|floor|ceil|round)\\b");

    public static void main(String[] args) throws IOException {
        byte[] bytes = Files.readAllBytes(SOURCE);
        for (byte b : bytes) {
            if (b < 0) {
                Check.same("a sign of the source", Byte.toString(b), "0 to 127");
            }
        }
        String code = withoutTextAndComments(new String(bytes, StandardCharsets.US_ASCII));
        for (String refused : REFUSED) {
            Matcher m = Pattern.compile(refused).matcher(code);
            Check.same("rules 3 to 6: " + refused, m.find() ? m.group() : "none", "none");
        }
        throwsOnlyWhatIsNamed(code);
        methodsStayShort(code);
        Check.finish();
    }

    private static String withoutTextAndComments(String source) {
        return source.replaceAll("\"[^\"\n]*\"", "\"\"").replaceAll("(?s)/\\*.*?\\*/", "").replaceAll("//[^\n]*", "");
    }

    private static void throwsOnlyWhatIsNamed(String code) {
        Matcher m = Pattern.compile("\\bthrow\\b[^;]*").matcher(code);
        String named = "throw new (IllegalState|IllegalArgument|IndexOutOfBounds|Arithmetic|UnsupportedOperation"
            + "|NoSuchElement|Runtime)Exception\\((\"\")?\\)";
        while (m.find()) {
            Check.same("rule 6: " + m.group(), Boolean.toString(m.group().matches(named)), "true");
        }
    }

    private static void methodsStayShort(String code) {
        int begin = -1;
        String head = "";
        String[] lines = code.split("\n");
        for (int i = 0; i < lines.length; i++) {
            if (lines[i].matches(" {4}( {4})?(public|private)[^=;]*\\(.*")) {
                begin = i;
                head = lines[i].strip();
                Check.same("rule 11: " + head, Boolean.toString(head.split(",").length <= 7), "true");
            }
            boolean ends = begin >= 0 && lines[i].matches(" {4}( {4})?\\}");
            if (ends) {
                Check.same("rule 11: " + head, Boolean.toString(i - begin < 60), "true");
            }
        }
    }
}

import java.io.IOException;
import java.nio.charset.StandardCharsets;
import java.nio.file.Files;
import java.nio.file.Path;
import java.util.List;
import java.util.regex.Matcher;
import java.util.regex.Pattern;

/** Rules of LANGUAGE.md that can be seen in the words of the source. */
public final class SourceTest {
    private static final Path SOURCE = Path.of("src/main/java/AliasStreams.java");
    private static final List<String> REFUSED = List.of(
        "\\bimport\\b", "\\bpackage\\b", "\\btry\\b", "\\bcatch\\b", "\\bfinally\\b", "\\bsynchronized\\b",
        "\\bassert\\b", "\\bprotected\\b", "\\bwhile\\b", "->", "::", "\\bstatic\\s*\\{", "\\bequals\\b",
        "\\bhashCode\\b", "\\btoString\\b", "\\bdouble\\b", "\\bfloat\\b", "\\w+Exact\\b", "\\bThread\\b",
        "\\bRandom\\b", "\\bSystem\\.(?!arraycopy\\b)", "\\bMath\\.(?!min\\b|max\\b|floorMod\\b)");

    public static void main(String[] args) throws IOException {
        byte[] bytes = Files.readAllBytes(SOURCE);
        for (byte b : bytes) {
            if (b < 0) {
                Check.same("a sign of the source", Byte.toString(b), "0 to 127");
            }
        }
        String code = withoutTextAndComments(new String(bytes, StandardCharsets.US_ASCII));
        for (String refused : REFUSED) {
            Matcher m = Pattern.compile(refused).matcher(code);
            Check.same("rules 3 to 6: " + refused, m.find() ? m.group() : "none", "none");
        }
        throwsOnlyWhatIsNamed(code);
        makesObjectsOnlyAtFirst(code);
        methodsStayShort(code);
        Check.finish();
    }

    private static String withoutTextAndComments(String source) {
        return source.replaceAll("\"[^\"\n]*\"", "\"\"").replaceAll("(?s)/\\*.*?\\*/", "").replaceAll("//[^\n]*", "");
    }

    private static void throwsOnlyWhatIsNamed(String code) {
        Matcher m = Pattern.compile("\\bthrow\\b[^;]*").matcher(code);
        String named = "throw new (IllegalStateException|IllegalArgumentException|IndexOutOfBoundsException)\\(\"\"\\)";
        while (m.find()) {
            Check.same("rule 6: " + m.group(), Boolean.toString(m.group().matches(named)), "true");
        }
    }

    /** Rule 12 and the room: rows are made with the object, calls make only exceptions. */
    private static void makesObjectsOnlyAtFirst(String code) {
        for (String line : code.split("\n")) {
            boolean makes = line.contains("new ") && !line.contains("throw new ");
            boolean atFirst = line.contains("private final ") || line.matches("\\s+(tables\\[m\\]|states\\[i\\]) = .*");
            Check.same("rule 12: " + line.strip(), Boolean.toString(makes && !atFirst), "false");
        }
    }

    private static void methodsStayShort(String code) {
        int begin = -1;
        String head = "";
        String[] lines = code.split("\n");
        for (int i = 0; i < lines.length; i++) {
            if (lines[i].matches(" {4}( {4})?(public|private)[^=;]*\\(.*")) {
                begin = i;
                head = lines[i].strip();
                Check.same("rule 11: " + head, Boolean.toString(head.split(",").length <= 7), "true");
            }
            boolean ends = begin >= 0 && lines[i].matches(" {4}( {4})?\\}");
            if (ends) {
                Check.same("rule 11: " + head, Boolean.toString(i - begin < 60), "true");
            }
        }
    }
}

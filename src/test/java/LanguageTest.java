import java.nio.file.Files;
import java.nio.file.Path;
import java.util.Arrays;
import java.util.List;
import java.util.regex.Matcher;
import java.util.regex.Pattern;

/** The program's text against what can be read off it of ../shared/LANGUAGE.md, and of the project's own page. */
public final class LanguageTest {
    private static final String PROGRAM = "src/main/java/StencilWall.java";
    private static final int LONGEST_METHOD = 60;
    private static final Pattern METHOD = Pattern.compile("(?:public|private)(?: static)? \\w+(?:\\[\\])? (\\w+)\\(.*\\) \\{");

    public static void main(String[] args) throws Exception {
        String code = withoutComments(Files.readString(Path.of(PROGRAM)));
        oneFile(code);
        library(code);
        words(code);
        objects(code);
        methods(code);
        Check.end();
    }

    /** Comments go, line ends stay. */
    private static String withoutComments(String text) {
        String plain = text.replaceAll("//[^\\n]*", "");
        StringBuilder code = new StringBuilder();
        Matcher comment = Pattern.compile("/\\*.*?\\*/", Pattern.DOTALL).matcher(plain);
        while (comment.find()) {
            comment.appendReplacement(code, comment.group().replaceAll("[^\\n]", ""));
        }
        return comment.appendTail(code).toString();
    }

    private static void none(String rule, String code, String pattern) {
        Matcher found = Pattern.compile(pattern).matcher(code);
        while (found.find()) {
            Check.that(rule + ", but has: " + found.group(), false);
        }
        Check.that(rule, true);
    }

    private static void oneFile(String code) {
        none("no package line", code, "(?m)^\\s*package\\b.*");
        none("one public class", code.replace("public final class StencilWall", ""),
            "(?:public|protected)(?: static| final| abstract)* (?:class|interface|enum|record).*");
        none("rule 2: classes inside are static", code.replace("public final class StencilWall", ""),
            "(?m)^(?!.*\\bstatic\\b).*\\bclass\\b.*");
        none("rule 4: imports", code, "import (?!java\\.util\\.(?:Arrays|ArrayList|List|Iterator);).*");
    }

    private static void library(String code) {
        none("rule 4: System", code, "System\\.(?!arraycopy\\()\\w+");
        none("rule 4: Arrays", code, "Arrays\\.(?!(?:copyOf|copyOfRange|fill)\\()\\w+\\(");
        none("rule 4: none whose name ends in Exact", code, "\\w+Exact\\(");
        none("rule 3: no Math on doubles", code, "Math\\.(?:sqrt|pow|random|floor|ceil|round|log|exp|sin|cos)\\(");
        none("rule 3: no doubles or floats are needed", code, "\\b(?:double|float)\\b");
        none("rule 13: no clock, chance, file, thread", code,
            "\\b(?:Random|Thread|Runtime|File|Files|Path|Socket|Clock|Instant|Date|Process|ClassLoader)\\b");
    }

    private static void words(String code) {
        none("rule 2: no lambda, no method reference", code, "->|::");
        none("rule 6: the document names no exception", code, "\\b(?:try|catch|finally|throw|throws)\\b");
        none("rule 6: words that are left out", code, "\\b(?:synchronized|assert|volatile|native|transient|goto)\\b");
        none("rule 5: no static block", code, "static\\s*\\{");
        none("rule 5: static fields are final", code, "static (?!final )(?:\\w|\\[|\\])+ \\w+\\s*[=;,].*");
        none("rule 6: no equals, hashCode, toString of own objects", code, "\\b(?:equals|hashCode|toString)\\(");
        none("rule 9: no loop without an end", code, "while \\(true\\)|for \\(;;\\)");
        none("rule 4: characters of ASCII alone", code, "[^\\x00-\\x7f]");
    }

    /** No call makes an object: all rows are made with the wall, so that many calls live in one room. */
    private static void objects(String code) {
        none("objects are made by fields alone", code, "(?m)^(?!\\s*private final [\\w\\[\\]]+ \\w+ = new ).*\\bnew\\b.*");
    }

    private static void methods(String code) {
        List<String> lines = Arrays.asList(code.split("\n", -1));
        int count = 0;
        for (int i = 0; i < lines.size(); i++) {
            Matcher head = METHOD.matcher(lines.get(i).trim());
            if (head.matches()) {
                count++;
                int length = lengthFrom(lines, i);
                Check.that("rule 11: " + head.group(1) + " has " + length + " lines", length <= LONGEST_METHOD);
            }
        }
        Check.that("methods were found: " + count, count > 27);
    }

    private static int lengthFrom(List<String> lines, int first) {
        int depth = 0;
        for (int i = first; i < lines.size(); i++) {
            for (char sign : lines.get(i).toCharArray()) {
                depth += sign == '{' ? 1 : sign == '}' ? -1 : 0;
            }
            if (depth == 0) {
                return i - first + 1;
            }
        }
        return lines.size() - first;
    }
}

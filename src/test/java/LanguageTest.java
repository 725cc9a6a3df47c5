import java.io.IOException;
import java.nio.file.Files;
import java.nio.file.Path;
import java.util.List;
import java.util.regex.Matcher;
import java.util.regex.Pattern;

/** The rules of ../shared/LANGUAGE.md that can be seen in the source line by line. */
final class LanguageTest {
    private static final Check CHECK = new Check("LanguageTest");
    private static final String[] BARRED = {"->", "::", "\\btry\\b", "\\bcatch\\b", "\\bfinally\\b", "\\bassert\\b",
        "\\bsynchronized\\b", "\\bprotected\\b", "\\bdouble\\b", "\\bfloat\\b", "\\bObject\\b", "Exact\\(", "\\bnull\\b",
        "\\bSystem\\.(?!arraycopy)", "\\bstatic \\{", "\"", "\\bvar\\b"};

    public static void main(String[] args) throws IOException {
        List<String> lines = Files.readAllLines(Path.of("src/main/java/GapLinks.java"));
        int classes = 0;
        for (int k = 0; k < lines.size(); k++) {
            String code = lines.get(k).replaceAll("//.*|^\\s*/?\\*.*", "");
            for (String barred : BARRED) {
                CHECK.due("line " + (k + 1) + " has " + barred, false, Pattern.compile(barred).matcher(code).find());
            }
            CHECK.due("line " + (k + 1) + " has a sign beyond 127", true, lines.get(k).chars().allMatch(c -> c < 128));
            classes += code.matches(".*\\b(class|interface|enum|record) [A-Z].*") ? 1 : 0;
            if (code.startsWith("import ")) {
                CHECK.due(code, true, code.matches("import java\\.util\\.(Arrays|NoSuchElementException);"));
            }
        }
        CHECK.due("classes are twelve at most", true, classes <= 12);
        methods(lines);
        CHECK.finish();
    }

    private static void methods(List<String> lines) {
        Pattern head = Pattern.compile("^( {4}| {8})(?:[a-z]+ )*(?:[A-Za-z]+(?:\\[\\])? )?([a-zA-Z]+)\\((.*)\\).* \\{$");
        int methods = 0;
        for (int k = 0; k < lines.size(); k++) {
            Matcher m = head.matcher(lines.get(k));
            if (m.find()) {
                int end = k;
                while (!lines.get(end).equals(m.group(1) + "}")) {
                    end++;
                }
                methods++;
                CHECK.due(m.group(2) + " is short", true, end - k <= 60);
                CHECK.due(m.group(2) + " takes seven at most", true, m.group(3).split(",").length <= 7);
            }
        }
        CHECK.due("methods were found", true, methods > 100);
    }
}

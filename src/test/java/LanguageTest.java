import java.io.IOException;
import java.nio.file.Files;
import java.nio.file.Path;
import java.util.regex.Matcher;
import java.util.regex.Pattern;

/** Rules of LANGUAGE.md that can be seen in the text of the class. */
public final class LanguageTest {
    private static final String[] FORBIDDEN = {
        "\\bthrow\\b", "\\btry\\b", "\\bcatch\\b", "\\bsynchronized\\b", "\\bassert\\b", "->", "::", "\\bfloat\\b",
        "\\bdouble\\b", "\\bFloat\\.", "\\bDouble\\.", "Exact\\(", "\\bThread\\b", "\\bRandom\\b", "^package\\b",
        "\\bstatic \\{", "\\bequals\\(", "\\bhashCode\\b", "\\btoString\\b", "\\bwhile \\(true\\)", "for \\(;;\\)"};

    public static void main(String[] args) throws IOException {
        Due due = new Due();
        String text = Files.readString(Path.of("src/main/java/TraceTrees.java"));
        String code = text.replaceAll("(?s)/\\*.*?\\*/", "").replaceAll("//[^\n]*", "");
        for (String word : FORBIDDEN) {
            Matcher m = Pattern.compile(word, Pattern.MULTILINE).matcher(code);
            due.holds("the class is without " + word, !m.find());
        }
        Matcher imports = Pattern.compile("^import ([^;]*);", Pattern.MULTILINE).matcher(code);
        while (imports.find()) {
            due.holds("import " + imports.group(1), imports.group(1).equals("java.util.Arrays"));
        }
        Matcher classes = Pattern.compile("\\bclass \\w+").matcher(code);
        int many = 0;
        while (classes.find()) {
            many++;
        }
        due.holds("at most twelve classes: " + many, many <= 12);
        for (char c : text.toCharArray()) {
            if (c > 127) {
                due.holds("sign " + (int) c, false);
            }
        }
        due.end();
    }
}

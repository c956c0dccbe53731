import java.io.IOException;
import java.nio.file.Files;
import java.nio.file.Path;
import java.util.regex.Matcher;
import java.util.regex.Pattern;

/** What of LANGUAGE.md can be seen from the words of the source. Run from the project's folder. */
public final class RulesTest {
    private static final Due due = new Due();
    private static final String[] NEVER = {
        "\\bthrow\\b", "\\bthrows\\b", "\\btry\\b", "\\bcatch\\b", "\\bsynchronized\\b", "\\bassert\\b", "->", "::",
        "\\bprotected\\b", "\\bpackage\\b", "\\bnative\\b", "\\bvolatile\\b", "\\bequals\\b", "\\bhashCode\\b",
        "\\btoString\\b", "\\bObject\\b", "\\w+Exact\\b", "\\bRandom\\b", "\\bSystem\\.(?!arraycopy)", "static\\s*\\{",
        "\\bnew\\s+\\w+\\s*\\([^)]*\\)\\s*\\{", "\\bdouble\\b", "\\bfloat\\b", "\"\\s*\\+", "\\+\\s*\"", "\\[\\]\\[\\]",
    };

    public static void main(String[] args) throws IOException {
        String source = Files.readString(Path.of("src/main/java/CaseElsewhere.java"));
        String code = source.replaceAll("(?s)/\\*.*?\\*/", "").replaceAll("//[^\n]*", "");
        for (String word : NEVER) {
            due.isTrue("no " + word, !Pattern.compile(word).matcher(code).find());
        }
        imports(code);
        methods(code);
        due.isTrue("twelve classes at the most", count(code, "\\bclass\\s+\\w+") <= 12);
        due.end();
    }

    private static void imports(String code) {
        Matcher m = Pattern.compile("import\\s+([^;]*);").matcher(code);
        while (m.find()) {
            due.isTrue("import of " + m.group(1), m.group(1).equals("java.util.Arrays"));
        }
    }

    /** Methods of sixty lines and seven parameters at the most. */
    private static void methods(String code) {
        Matcher m = Pattern.compile("(?m)^( {4}| {8})(?! )[\\w\\[\\] ]*\\w\\(([^()]*)\\) \\{\n(?s:.*?)\n\\1\\}").matcher(code);
        int found = 0;
        while (m.find()) {
            found++;
            String head = m.group().substring(0, m.group().indexOf('{')).trim();
            due.isTrue("seven parameters at the most: " + head, count(m.group(2), ",") < 7);
            due.isTrue("sixty lines at the most: " + head, count(m.group(), "\n") < 60);
        }
        due.isTrue("methods were found", found > 80);
    }

    private static int count(String text, String word) {
        Matcher m = Pattern.compile(word).matcher(text);
        int n = 0;
        while (m.find()) {
            n++;
        }
        return n;
    }
}

import java.io.IOException;
import java.lang.reflect.Field;
import java.lang.reflect.Method;
import java.lang.reflect.Modifier;
import java.nio.file.Files;
import java.nio.file.Path;
import java.util.HashSet;
import java.util.Set;
import java.util.regex.Matcher;
import java.util.regex.Pattern;

/** What of LANGUAGE.md can be seen from the words of the source and from its classes. Run from the project's folder. */
public final class RulesTest {
    private static final Due due = new Due();
    private static final String[] NEVER = {
        "\\bthrow\\b", "\\bthrows\\b", "\\btry\\b", "\\bcatch\\b", "\\bsynchronized\\b", "\\bassert\\b", "->", "::",
        "\\bprotected\\b", "\\bpackage\\b", "\\bnative\\b", "\\bvolatile\\b", "\\bequals\\b", "\\bhashCode\\b",
        "\\btoString\\b", "\\bObject\\b", "\\w+Exact\\b", "\\bRandom\\b", "\\bSystem\\.(?!arraycopy)", "static\\s*\\{",
        "\\bnew\\s+\\w+\\s*\\([^)]*\\)\\s*\\{", "\\bdouble\\b", "\\bfloat\\b", "\"\\s*\\+", "\\+\\s*\"", "\\[\\]\\[\\]",
    };

    public static void main(String[] args) throws IOException {
        String source = Files.readString(Path.of("src/main/java/CaseElsewhere.java"));
        String code = source.replaceAll("(?s)/\\*.*?\\*/", "").replaceAll("//[^\n]*", "");
        for (String word : NEVER) {
            due.isTrue("no " + word, !Pattern.compile(word).matcher(code).find());
        }
        imports(code);
        methods(code);
        due.isTrue("twelve classes at the most", count(code, "\\bclass\\s+\\w+") <= 12);
        fields(CaseElsewhere.class);
        inside();
        due.end();
    }

    private static void imports(String code) {
        Matcher m = Pattern.compile("import\\s+([^;]*);").matcher(code);
        while (m.find()) {
            due.isTrue("import of " + m.group(1), m.group(1).equals("java.util.Arrays"));
        }
    }

    /** Methods of sixty lines and seven parameters at the most. */
    private static void methods(String code) {
        Matcher m = Pattern.compile("(?m)^( {4}| {8})(?! )[\\w\\[\\] ]*\\w\\(([^()]*)\\) \\{\n(?s:.*?)\n\\1\\}").matcher(code);
        int found = 0;
        while (m.find()) {
            found++;
            String head = m.group().substring(0, m.group().indexOf('{')).trim();
            due.isTrue("seven parameters at the most: " + head, count(m.group(2), ",") < 7);
            due.isTrue("sixty lines at the most: " + head, count(m.group(), "\n") < 60);
        }
        due.isTrue("methods were found", found > 80);
    }

    /** Static fields are final; twenty others in a class at the most. */
    private static void fields(Class<?> one) {
        int own = 0;
        for (Field field : one.getDeclaredFields()) {
            boolean isStatic = Modifier.isStatic(field.getModifiers());
            due.isTrue("final: " + field, !isStatic || Modifier.isFinal(field.getModifiers()));
            own += isStatic ? 0 : 1;
        }
        due.isTrue("twenty fields at the most: " + one, own <= 20);
    }

    /** The classes inside are static and not public, and none of their methods bears a name of the face. */
    private static void inside() {
        Set<String> names = new HashSet<>();
        for (Method method : CaseElsewhere.class.getMethods()) {
            names.add(method.getName());
        }
        for (Class<?> one : CaseElsewhere.class.getDeclaredClasses()) {
            int how = one.getModifiers();
            due.isTrue("static: " + one, Modifier.isStatic(how));
            due.isTrue("not public: " + one, !Modifier.isPublic(how) && !Modifier.isProtected(how));
            fields(one);
            for (Method method : one.getDeclaredMethods()) {
                due.isTrue("another name: " + method, !names.contains(method.getName()));
            }
        }
    }

    private static int count(String text, String word) {
        Matcher m = Pattern.compile(word).matcher(text);
        int n = 0;
        while (m.find()) {
            n++;
        }
        return n;
    }
}

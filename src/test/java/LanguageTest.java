import java.nio.file.Files;
import java.nio.file.Path;
import java.util.regex.Matcher;
import java.util.regex.Pattern;

/** A rough look at the source for what LANGUAGE.md leaves out; run from the project's folder. */
public final class LanguageTest {
    private static final String[] LEFT_OUT = {"\\bthrow\\b", "\\btry\\b", "\\bcatch\\b", "\\bsynchronized\\b", "\\bassert\\b",
        "->", "::", "\\bimport (?!java\\.util\\.(Arrays|ArrayList|List|Iterator);)", "Exact\\b", "\\.hashCode\\b",
        "\\bObject\\b", "\\bpackage\\b", "\\bdouble\\b", "\\bfloat\\b", "\\bRandom\\b", "System\\.(?!arraycopy)",
        "^\\s*static \\{", "\\bvar\\b", "\\bprotected\\b"};

    private LanguageTest() {
    }

    public static void main(String[] args) throws Exception {
        Check check = new Check();
        String source = Files.readString(Path.of("src/main/java/ChainsHold.java"));
        String code = source.replaceAll("(?s)/\\*.*?\\*/", "").replaceAll("//[^\n]*", "");
        for (String word : LEFT_OUT) {
            check.due("places with " + word, count(code, word), 0);
        }
        check.due("public classes", count(code, "public final class "), 1);
        check.due("classes, at most 12", count(code, "\\bclass \\w+ ") <= 12 ? 1 : 0, 1);
        // rows are made with the object, never by a call: each 'new' of an array stands in a field's declaration
        check.due("arrays made by a call", count(code, "new \\w+\\[") - count(code, "private final .*new \\w+\\[")
            - count(code, "\n        final .*new \\w+\\["), 0);
        for (String line : code.split("\n")) {
            check.due("parameters of " + line.trim(), line.matches("    +\\w[^=.;]*\\([^()]*(,[^(),]*){7,}\\) \\{") ? 1 : 0, 0);
        }
        check.due("longest method is short", longestMethod(code) <= 60 ? 1 : 0, 1);
        check.end("LanguageTest");
    }

    private static int count(String code, String pattern) {
        Matcher m = Pattern.compile(pattern, Pattern.MULTILINE).matcher(code);
        int found = 0;
        while (m.find()) {
            found++;
        }
        return found;
    }

    private static int longestMethod(String code) {
        int longest = 0;
        for (String indent : new String[] {"    ", "        "}) {
            Matcher m = Pattern.compile("^" + indent + "\\w[^;={]*\\) \\{\n(?s:.*?)^" + indent + "\\}", Pattern.MULTILINE).matcher(code);
            while (m.find()) {
                longest = Math.max(longest, m.group().split("\n").length);
            }
        }
        return longest;
    }
}

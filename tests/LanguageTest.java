import java.io.IOException;
import java.nio.file.Files;
import java.nio.file.Path;
import java.util.regex.Matcher;
import java.util.regex.Pattern;

/** What can be seen in the source itself of the rules of ../shared/LANGUAGE.md; run from the project's folder. */
public final class LanguageTest {
    private static final String[] NEVER = {"\\bthrow\\b", "\\btry\\b", "\\bcatch\\b", "\\bfinally\\b", "\\bassert\\b",
        "\\bsynchronized\\b", "\\bimport\\b", "\\bpackage\\b", "->", "::", "\\bthis\\s*\\(", "\\bnative\\b",
        "\\bObject\\b", "\\bThread\\b", "\\bvolatile\\b", "\\bdouble\\b", "\\bfloat\\b", "Exact\\b",
        "\\bequals\\b", "\\bhashCode\\b", "\\btoString\\b", "\\bvar\\b", "\\bObjects\\b", "\\?\\s*>"};

    public static void main(String[] args) throws IOException {
        String source = Files.readString(Path.of("src/main/java/InnTurned.java"));
        String code = source.replaceAll("(?s)/\\*.*?\\*/", "").replaceAll("//[^\n]*", "");
        Due.promise("the language");
        for (String word : NEVER) Due.holds("no " + word, !Pattern.compile(word).matcher(code).find());
        only(code, "\\bSystem\\.(\\w+)", "arraycopy");
        only(code, "\\bMath\\.(\\w+)", "min|max");
        only(code, "\\bInteger\\.(\\w+)", "bitCount");
        madeInConstructorsAlone(code);
        staticsAreFinal(code);
        methodsAreShort(code);
        Due.end();
    }

    private static void only(String code, String call, String allowed) {
        Matcher m = Pattern.compile(call).matcher(code);
        while (m.find()) Due.holds(m.group() + " is used", m.group(1).matches(allowed));
    }

    /** What a call makes is never given back, so that nothing is made but with the inn. */
    private static void madeInConstructorsAlone(String code) {
        for (String line : code.split("\n")) {
            if (!line.contains("new ")) continue;
            Due.holds("made with the inn: " + line.trim(), line.contains("final") || line.trim().startsWith("cells ="));
        }
    }

    private static void staticsAreFinal(String code) {
        Matcher m = Pattern.compile("\\bstatic (\\w+)[^;{(]*=").matcher(code);
        while (m.find()) Due.holds(m.group() + " is final", m.group(1).equals("final"));
    }

    private static void methodsAreShort(String code) {
        int begun = -1, line = 0;
        for (String text : code.split("\n")) {
            line++;
            if (text.matches(" {4}( {4})?[\\w\\[\\] ]+\\(.*\\) \\{")) begun = line;
            if (text.matches(" {4}( {4})?}") && begun > 0) {
                Due.holds("a method of sixty lines at most ends at line " + line, line - begun <= 60);
                begun = -1;
            }
        }
    }
}

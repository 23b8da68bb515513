import java.io.IOException;
import java.nio.file.Files;
import java.nio.file.Path;
import java.util.regex.Matcher;
import java.util.regex.Pattern;

/**
 * What can be seen in the source itself of the rules of ../shared/LANGUAGE.md, by their numbers (the first is
 * FaceTest's, how deep calls go is CallsTest's, what they make is RoomTest's); run from the project's folder.
 */
public final class LanguageTest {
    private static final String METHOD = " {4,12}[\\w<>\\[\\] ]+\\((.*)\\) \\{";

    public static void main(String[] args) throws IOException {
        String source = Files.readString(Path.of("src/main/java/InnTurned.java"));
        String code = source.replaceAll("(?s)/\\*.*?\\*/", "").replaceAll("//[^\n]*", "");
        Due.promise("rule 2: no lambda, no method reference, no class without a name");
        never(code, "::", "\\)\\s*->", "\\w\\s*->(?<!case [^;{}]{0,80}->|default\\s{0,4}->)", "\\bnew \\w+\\([^;]*\\)\\s*\\{");
        Due.promise("rule 3: no other types");
        never(code, "\\bObject\\b", "\\bvar\\b", "\\[\\]\\[\\]\\[\\]", "\\bLong\\s+\\w+\\s*[=;,)]", "\\b(Map|Set|HashMap|Optional|Random)\\b");
        Due.promise("rule 3: signs of 1 to 127");
        Due.holds("the source has no others", source.chars().allMatch(c -> c > 0 && c < 128));
        Due.promise("rule 4: only what stands there");
        only(code, "\\bSystem\\.(\\w+)", "arraycopy");
        only(code, "\\bArrays\\.(\\w+)", "copyOf|copyOfRange|fill");
        only(code, "\\b(?:Math|Integer|Long)\\.([a-z]\\w*)", "(?!\\w*Exact\\b|random|sqrt|pow|parse\\w*|valueOf|toString)\\w+");
        only(code, "\\bimport\\s+([\\w.]+)", "java\\.util\\.(ArrayList|List|Arrays|Iterator)");
        Due.promise("rule 5: static fields are final");
        staticsAreFinal(code);
        Due.promise("rule 6");
        never(code, "\\bthrow\\b", "\\bthrows\\b", "\\btry\\b", "\\bcatch\\b", "\\bfinally\\b", "\\bassert\\b", "\\bsynchronized\\b",
            "\\bhashCode\\b", "\\bboolean equals\\b");
        Due.promise("rule 11");
        methodsAreShort(code);
        Due.promise("rule 13");
        never(code, "\\bThread\\b", "\\bvolatile\\b", "\\bnative\\b", "\\bpackage\\b");
        Due.end();
    }

    private static void never(String code, String... patterns) {
        for (String pattern : patterns) Due.holds("no " + pattern, !Pattern.compile(pattern).matcher(code).find());
    }

    private static void only(String code, String call, String allowed) {
        Matcher m = Pattern.compile(call).matcher(code);
        while (m.find()) Due.holds(m.group() + " is used", m.group(1).matches(allowed));
    }

    private static void staticsAreFinal(String code) {
        Matcher m = Pattern.compile("\\bstatic ([\\w\\[\\], ]+?)\\s*=").matcher(code);
        while (m.find()) Due.holds(m.group() + " is final", m.group(1).startsWith("final ") || m.group(1).contains(" final "));
        never(code, "\\bstatic\\s*\\{");
    }

    /** By the way the file is set: a method's first line and its last one stand as far to the right. */
    private static void methodsAreShort(String code) {
        String[] lines = code.split("\n");
        for (int begin = 0; begin < lines.length; begin++) {
            Matcher m = Pattern.compile(METHOD).matcher(lines[begin]);
            if (!m.matches() || lines[begin].matches(".*\\b(if|for|while|switch|else|return)\\b.*")) continue;
            Due.holds("at most seven parameters: " + lines[begin].trim(), m.group(1).split(",").length <= 7);
            String last = lines[begin].replaceAll("\\S.*", "") + "}";
            int end = begin;
            while (end < lines.length && !lines[end].equals(last)) end++;
            Due.holds("some sixty lines: " + lines[begin].trim(), end - begin <= 66);
        }
    }
}

import java.io.IOException;
import java.lang.reflect.Method;
import java.lang.reflect.Modifier;
import java.nio.file.Files;
import java.nio.file.Path;
import java.util.Arrays;
import java.util.regex.Matcher;
import java.util.regex.Pattern;

/** README.md's examples answer what it says, and its table of groups leaves out no call; run from the project's folder. */
public final class ReadmeTest {
    private static final Pattern EXAMPLE = Pattern.compile("(?m)^inn\\.(\\w+)\\(([\\d, ]*)\\);\\s+// (-?\\d+):");
    private static final Pattern TEXT = Pattern.compile("String text = \"([^\"]+)\";");

    public static void main(String[] args) throws IOException {
        String page = Files.readString(Path.of("README.md"));
        Due.promise("README.md's examples");
        InnTurned inn = new InnTurned();
        int text = page.indexOf("String text");
        examples(inn, page.substring(0, text), 6);
        Matcher told = TEXT.matcher(page);
        Due.holds("a text is told", told.find());
        Due.type(inn, told.group(1));
        examples(inn, page.substring(text), 2);
        Due.promise("README.md's groups of calls");
        for (Method call : InnTurned.class.getDeclaredMethods()) {
            if (Modifier.isPublic(call.getModifiers())) Due.holds(call.getName(), Pattern.compile("(?m)^\\|.*`" + call.getName() + "`").matcher(page).find());
        }
        Due.end();
    }

    private static void examples(InnTurned inn, String page, int many) {
        Matcher m = EXAMPLE.matcher(page);
        int found = 0;
        for (; m.find(); found++) {
            String[] numbers = m.group(2).isEmpty() ? new String[0] : m.group(2).split(", ");
            Integer[] given = Arrays.stream(numbers).map(Integer::valueOf).toArray(Integer[]::new);
            Due.due(m.group(), Inns.ask(inn, m.group(1), given), Integer.parseInt(m.group(3)));
        }
        Due.due("examples", found, many);
    }
}

import java.io.IOException;
import java.lang.reflect.Method;
import java.lang.reflect.Modifier;
import java.nio.file.Files;
import java.nio.file.Path;
import java.util.regex.Matcher;
import java.util.regex.Pattern;

/** README.md tells the truth: the answers in its example are the object's, and every call is named. */
public final class ReadmeTest {
    private static final Pattern TEXT = Pattern.compile("for \\(char letter : \"([^\"]*)\"");
    private static final Pattern CALL = Pattern.compile("(?m)^links\\.(\\w+\\([^)]*\\)); +// (-?\\d+)");

    private static void example(String page) {
        Bounds.says("the example of README.md");
        Matcher text = TEXT.matcher(page);
        Bounds x = Bounds.written(text.find() ? text.group(1) : "");
        Matcher call = CALL.matcher(page);
        while (call.find()) {
            x.due(call.group(1).replace("L)", ")"), Long.parseLong(call.group(2)));
        }
    }

    private static void everyCall(String page) {
        Bounds.says("README.md names every call");
        for (Method m : TimeLinks.class.getDeclaredMethods()) {
            if (Modifier.isPublic(m.getModifiers())) {
                Bounds.same("how often README.md has no " + m.getName(), page.contains("`" + m.getName() + "`") ? 0 : 1, 0);
            }
        }
    }

    public static void main(String[] args) throws IOException {
        String page = Files.readString(Path.of("README.md"));
        example(page);
        everyCall(page);
        Bounds.end();
    }
}

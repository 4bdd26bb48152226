import java.io.IOException;
import java.lang.reflect.Method;
import java.lang.reflect.Modifier;
import java.nio.file.Files;
import java.nio.file.Path;
import java.util.Arrays;
import java.util.HashSet;
import java.util.Set;
import java.util.regex.Matcher;
import java.util.regex.Pattern;

/** What README.md says: its text is told, its calls are made in their order, each must answer what stands behind it. */
public final class ReadmeTest {
    private static final Pattern TEXT = Pattern.compile("(?s)```text\n(.*?)```");
    private static final Pattern CALL = Pattern.compile("(?m)^post\\.(\\w+)\\(([^)]*)\\);\\s*// (-?\\d+)");
    private static final Pattern HELP = Pattern.compile("(?s)```java\n(static .*?)```");
    private static int wrong = 0;

    public static void main(String[] args) throws IOException {
        String page = Files.readString(Path.of("README.md"));
        MindPost post = new MindPost();
        Matcher text = TEXT.matcher(page);
        if (!text.find() || Calls.tell(post, text.group(1)) < 0) {
            bad("the text can't be told");
        }
        Matcher help = HELP.matcher(page);
        String calls = Files.readString(Path.of("src/test/java/Calls.java"));
        if (!help.find() || !calls.contains(help.group(1).indent(4))) {
            bad("the way to tell a text isn't the one that the tests use");
        }
        Set<String> called = new HashSet<>(Set.of("feed", "post"));
        Matcher call = CALL.matcher(page);
        while (call.find()) {
            called.add(call.group(1));
            long got = Calls.call(post, call.group(1), numbers(call.group(2)));
            if (got != Long.parseLong(call.group(3))) {
                bad(call.group() + " but it answered " + got);
            }
        }
        for (Method m : MindPost.class.getDeclaredMethods()) {
            if (Modifier.isPublic(m.getModifiers()) && !called.contains(m.getName())) {
                bad("README.md doesn't say how to use " + m.getName());
            }
        }
        System.out.println(wrong == 0 ? "README.md says what is so" : wrong + " lines of README.md are not so");
        if (wrong != 0) {
            System.exit(1);
        }
    }

    private static void bad(String what) {
        wrong++;
        System.out.println(what);
    }

    private static long[] numbers(String inside) {
        return inside.isBlank() ? new long[0]
            : Arrays.stream(inside.split(",")).mapToLong(n -> Long.parseLong(n.strip())).toArray();
    }
}

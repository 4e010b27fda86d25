import java.io.IOException;
import java.lang.reflect.Method;
import java.nio.file.Files;
import java.nio.file.Path;
import java.util.regex.Matcher;
import java.util.regex.Pattern;

/** The list of sentences and tests, src/test/EDGES.md, names tests that there are, for every promise. */
final class EdgesTest {
    private static final Pattern NAMED = Pattern.compile("`(\\w+Test)\\.(\\w+)`");

    public static void main(String[] args) throws IOException {
        String list = Files.readString(Path.of("src/test/EDGES.md"));
        Matcher named = NAMED.matcher(list);
        while (named.find()) {
            Check.due(named.group() + " is there", isThere(named.group(1), named.group(2)), true);
        }
        for (int promise = 1; promise <= 14; promise++) {
            Check.due("promise " + promise + " is listed", list.contains("\n| " + promise + " | "), true);
        }
        Check.end();
    }

    private static boolean isThere(String test, String method) {
        try {
            for (Method each : Class.forName(test).getDeclaredMethods()) {
                if (each.getName().equals(method)) {
                    return true;
                }
            }
            return false;
        } catch (ClassNotFoundException gone) {
            return false;
        }
    }
}

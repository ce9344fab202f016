import java.lang.reflect.Method;
import java.lang.reflect.Modifier;
import java.nio.file.Files;
import java.nio.file.Path;
import java.util.regex.Matcher;
import java.util.regex.Pattern;

/** README.md: the calls that it shows answer what it says, and it names every method and how the tests are run. */
public final class ReadmeTest {
    private static final Pattern CALL = Pattern.compile("blocks\\.(\\w+)\\(([^()]*)\\);\\s*// (-?\\d+)(?=[:,]).*");
    private static final Pattern TEXT = Pattern.compile("type\\(blocks, \"([^\"]*)\"\\);.*");

    public static void main(String[] args) throws Exception {
        Check check = new Check("ReadmeTest");
        String page = Files.readString(Path.of("README.md"));
        String shown = page.substring(page.indexOf("EightBlocks blocks = new"), page.indexOf("where the texts are typed"));
        EightBlocks blocks = new EightBlocks();
        int calls = 0;
        for (String line : shown.split("\n")) {
            Matcher call = CALL.matcher(line);
            Matcher text = TEXT.matcher(line);
            if (call.matches()) {
                calls++;
                long got = ExampleTest.call(blocks, call.group(1), call.group(2));
                check.due(line, got, Long.parseLong(call.group(3)));
            } else if (text.matches()) {
                text.group(1).chars().forEach(blocks::type);
            } else {
                check.due("a line that is no call: " + line, line.matches("EightBlocks .*|```|") ? 1 : 0, 1);
            }
        }
        check.due("calls are shown", calls > 10 ? 1 : 0, 1);
        for (Method method : EightBlocks.class.getDeclaredMethods()) {
            boolean isNamed = page.contains("| `" + method.getName() + "(");
            boolean isPublic = Modifier.isPublic(method.getModifiers());
            check.due("the page has " + method.getName(), isNamed || !isPublic ? 1 : 0, 1);
        }
        check.due("how the tests are run", page.contains("\n.ci/run\n") ? 1 : 0, 1);
        check.end();
    }
}

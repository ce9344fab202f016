import java.lang.reflect.Method;
import java.nio.file.Files;
import java.nio.file.Path;
import java.util.List;
import java.util.regex.Matcher;
import java.util.regex.Pattern;

/** The worked examples, read from the document itself. */
public final class ExampleTest {
    private static final Pattern CALL = Pattern.compile("(\\w+)\\(([^()]*)\\)\\s*=\\s*(-?\\d+)");

    public static void main(String[] args) throws Exception {
        Check check = new Check("ExampleTest");
        List<String> lines = Files.readAllLines(Path.of("../shared/DOC.md"));
        EightBlocks blocks = null;
        StringBuilder example = new StringBuilder();
        int examples = 0;
        boolean inside = false;
        for (String line : lines) {
            if (line.startsWith("Examples: ")) {
                inside = true;
            } else if (line.startsWith("The constructor and the methods follow")) {
                break;
            } else if (inside && line.matches("\\d\\. .*")) {
                run(check, examples, example.toString());
                example.setLength(0);
                examples++;
            }
            if (inside) {
                example.append(line).append(' ');
            }
        }
        run(check, examples, example.toString());
        check.due("the number of examples", examples, 4);
        check.end();
    }

    private static void run(Check check, int number, String text) throws Exception {
        EightBlocks blocks = new EightBlocks();
        Matcher matcher = CALL.matcher(text);
        while (matcher.find()) {
            long got = call(blocks, matcher.group(1), matcher.group(2));
            check.due("example " + number + ": " + matcher.group(), got, Long.parseLong(matcher.group(3)));
        }
    }

    static long call(EightBlocks blocks, String name, String arguments) throws Exception {
        String[] texts = arguments.isBlank() ? new String[0] : arguments.split(",");
        for (Method method : EightBlocks.class.getMethods()) {
            if (method.getName().equals(name) && method.getParameterCount() == texts.length) {
                Object[] values = new Object[texts.length];
                for (int k = 0; k < values.length; k++) {
                    long value = Long.parseLong(texts[k].trim().replace("L", ""));
                    boolean isLong = method.getParameterTypes()[k] == long.class;
                    values[k] = isLong ? (Object) value : (Object) Math.toIntExact(value);
                }
                return ((Number) method.invoke(blocks, values)).longValue();
            }
        }
        throw new IllegalStateException("no method " + name);
    }
}

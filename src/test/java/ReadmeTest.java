import java.io.IOException;
import java.lang.reflect.Method;
import java.lang.reflect.Modifier;
import java.nio.file.Files;
import java.nio.file.Path;
import java.util.regex.Matcher;
import java.util.regex.Pattern;

/** README.md says how to use the class: its example answers what it says, and its table has every call. */
public final class ReadmeTest {
    private static final Check CHECK = new Check();
    private static final Pattern TEXT = Pattern.compile("\"([^\"]*)\"\\.toCharArray");
    private static final Pattern LINE = Pattern.compile("(?m)^x\\.(\\w+)\\(([-0-9, ]*)\\);\\s*// (-?\\d+):");

    public static void main(String[] args) throws IOException {
        String readme = Files.readString(Path.of("README.md"));
        exampleAnswersSo(readme);
        tableHasEveryCall(readme);
        CHECK.isTrue("README.md tells how to run the tests", readme.contains("bash .ci/run"));
        CHECK.end();
    }

    private static void exampleAnswersSo(String readme) {
        Matcher text = TEXT.matcher(readme);
        CHECK.isTrue("the example has a text", text.find());
        StemmaTree x = new StemmaTree();
        Check.type(x, text.group(1));
        Matcher line = LINE.matcher(readme);
        int lines = 0;
        while (line.find()) {
            String[] parts = (line.group(2) + ", 0, 0, 0").replaceFirst("^, ", "").split(", *");
            int got = Calls.call(x, line.group(1), Integer.parseInt(parts[0]), Integer.parseInt(parts[1]),
                    Integer.parseInt(parts[2]));
            CHECK.due(line.group(), got, Integer.parseInt(line.group(3)));
            lines++;
        }
        CHECK.due("lines of the example with an answer", lines, readme.split("(?m)^x\\.").length - 1);
        CHECK.isTrue("there are some", lines > 10);
    }

    private static void tableHasEveryCall(String readme) {
        for (Method method : StemmaTree.class.getDeclaredMethods()) {
            if (Modifier.isPublic(method.getModifiers())) {
                Matcher row = Pattern.compile("(?m)^\\| `" + method.getName() + "\\(([^)]*)\\)` \\|").matcher(readme);
                boolean found = row.find();
                CHECK.isTrue("README.md has " + method.getName(), found);
                int named = !found || row.group(1).isEmpty() ? 0 : row.group(1).split(",").length;
                CHECK.due("arguments of " + method.getName(), named, method.getParameterCount());
            }
        }
    }
}

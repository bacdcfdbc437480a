import java.io.IOException;
import java.lang.reflect.Method;
import java.lang.reflect.Modifier;
import java.net.URISyntaxException;
import java.nio.file.Files;
import java.nio.file.Path;
import java.util.regex.Matcher;
import java.util.regex.Pattern;
import javax.tools.ToolProvider;

/** README.md: its example compiles, each row answers what stands behind it, and no call of the face is left out. */
public final class ReadmeTest {
    private static final Due due = new Due();
    private static final Pattern ROW = Pattern.compile("((?:int )?(\\w+) = )?(.*);\\s+// (-?\\d+)\\b.*");

    public static void main(String[] args) throws IOException, URISyntaxException, ReflectiveOperationException {
        String readme = Files.readString(Path.of("README.md"));
        Matcher example = Pattern.compile("(?s)```java\n(.*?)```").matcher(readme);
        due.holds("README.md has an example", example.find());
        // The folder of the class itself is on the class path, so that what is compiled there can be run at once.
        Path folder = Path.of(FamilyFields.class.getProtectionDomain().getCodeSource().getLocation().toURI());
        Path source = Files.writeString(folder.resolve("ReadmeExample.java"), program(example.group(1)));
        int exit = ToolProvider.getSystemJavaCompiler().run(null, null, null, "-cp", folder.toString(), "-d", folder.toString(),
                source.toString());
        due.is("compiling the example of README.md", exit, 0);
        if (exit == 0) Class.forName("ReadmeExample").getDeclaredMethod("run", Due.class).invoke(null, due);
        callsAreTold(readme);
        due.end();
    }

    private static String program(String example) {
        StringBuilder program = new StringBuilder("class ReadmeExample { static void run(Due due) {\n");
        int answers = 0;
        for (String row : example.split("\n")) {
            Matcher m = ROW.matcher(row);
            boolean answered = m.matches();
            answers += answered ? 1 : 0;
            due.holds("an answer stands behind: " + row, answered || !row.contains(".") || row.matches("(//|FamilyFields x).*"));
            program.append(answered && m.group(1) == null ? "" : row + "\n");
            if (!answered) continue;
            String value = m.group(1) == null ? m.group(3) : m.group(2);
            program.append("due.is(\"README.md: ").append(m.group(3)).append("\", ").append(value).append(", ")
                    .append(m.group(4)).append("L);\n");
        }
        due.holds("the example has answers", answers > 0);
        return program.append("} }\n").toString();
    }

    private static void callsAreTold(String readme) {
        String calls = readme.substring(readme.indexOf("The calls,"), readme.indexOf("## Tests"));
        for (Method each : FamilyFields.class.getDeclaredMethods()) {
            if (!Modifier.isPublic(each.getModifiers())) continue;
            due.holds("README.md tells of " + each.getName(), calls.contains("`" + each.getName() + "`"));
        }
    }
}

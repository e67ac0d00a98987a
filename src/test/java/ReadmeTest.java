import java.io.IOException;
import java.lang.reflect.Method;
import java.lang.reflect.Modifier;
import java.nio.file.DirectoryStream;
import java.nio.file.Files;
import java.nio.file.Path;
import java.util.ArrayList;
import java.util.List;
import java.util.regex.Matcher;
import java.util.regex.Pattern;

/** What README.md says holds: its example answers so, and it names every call and every test. */
public final class ReadmeTest {
    private static final Check check = new Check();
    private static final Pattern CALL = Pattern.compile("(?m)^land\\.(\\w+)\\((.*)\\); +// (-?\\d+): ");

    public static void main(String[] args) throws IOException, ReflectiveOperationException {
        String readme = Files.readString(Path.of("README.md"));
        example(readme);
        calls(readme);
        tests(readme);
        check.finish();
    }

    /** The lines of the example are read and called as they stand there. */
    private static void example(String readme) throws ReflectiveOperationException {
        SurplusLand land = new SurplusLand();
        int made = 0;
        Matcher line = CALL.matcher(readme);
        while (line.find()) {
            long got = call(land, line.group(1), line.group(2));
            check.due("README.md: " + line.group(1) + "(" + line.group(2) + ")", got, Long.parseLong(line.group(3)));
            made++;
        }
        check.due("README.md: lines of the example", made, readme.split("(?m)^land\\.", -1).length - 1);
        check.due("README.md has an example", made > 0, true);
    }

    private static long call(SurplusLand land, String name, String numbers) throws ReflectiveOperationException {
        List<Object> given = new ArrayList<>();
        for (String number : numbers.split(", ")) {
            given.add(Integer.decode(number));
        }
        for (Method m : SurplusLand.class.getDeclaredMethods()) {
            if (m.getName().equals(name) && m.getParameterCount() == given.size()) {
                return ((Number) m.invoke(land, given.toArray())).longValue();
            }
        }
        throw new NoSuchMethodException(name);
    }

    private static void calls(String readme) {
        for (Method m : SurplusLand.class.getDeclaredMethods()) {
            if (Modifier.isPublic(m.getModifiers())) {
                check.due("README.md names " + m.getName(), readme.contains("`" + m.getName() + "`"), true);
            }
        }
    }

    private static void tests(String readme) throws IOException {
        try (DirectoryStream<Path> files = Files.newDirectoryStream(Path.of("src/test/java"), "*Test.java")) {
            for (Path file : files) {
                String name = file.getFileName().toString().replace(".java", "");
                check.due("README.md names " + name, readme.contains("`" + name + "`"), true);
            }
        }
    }
}

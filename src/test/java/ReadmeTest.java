import java.io.IOException;
import java.lang.reflect.Method;
import java.lang.reflect.Modifier;
import java.nio.file.DirectoryStream;
import java.nio.file.Files;
import java.nio.file.Path;
import java.util.Set;
import java.util.TreeSet;
import java.util.regex.Matcher;
import java.util.regex.Pattern;

/** What README.md says of the class and its tests is so: its example is run, its lists are whole. */
public final class ReadmeTest {
    private static final Pattern CALL = Pattern.compile("x\\.(\\w+)\\(([^)]*)\\);\\s*// (-?\\w+).*");

    public static void main(String[] args) throws IOException, ReflectiveOperationException {
        Check c = new Check("ReadmeTest");
        String readme = Files.readString(Path.of("README.md"));
        example(c, readme);
        calls(c, readme);
        tests(c, readme);
        c.end();
    }

    private static void example(Check c, String readme) throws ReflectiveOperationException {
        String opening = "```java\n";
        int from = readme.indexOf(opening);
        c.due("there is an example", true, from >= 0);
        if (from < 0) {
            return;
        }
        String block = readme.substring(from + opening.length(), readme.indexOf("```", from + opening.length()));
        TenthMan x = null;
        for (String line : block.split("\n")) {
            if (line.equals("TenthMan x = new TenthMan();")) {
                x = new TenthMan();
            } else if (!line.isEmpty() && !line.startsWith("//")) {
                Matcher call = CALL.matcher(line);
                boolean read = call.matches();
                c.due("a call with its answer: " + line, true, read && x != null);
                if (read && x != null) {
                    c.due(line, number(call.group(3)), answer(x, call.group(1), call.group(2)));
                }
            }
        }
    }

    private static long answer(TenthMan x, String name, String given) throws ReflectiveOperationException {
        String[] values = given.isEmpty() ? new String[0] : given.split(", ");
        for (Method method : TenthMan.class.getDeclaredMethods()) {
            if (method.getName().equals(name) && Modifier.isPublic(method.getModifiers())) {
                Object[] arguments = new Object[values.length];
                for (int i = 0; i < values.length; i++) {
                    int value = (int) number(values[i]);
                    arguments[i] = method.getParameterTypes()[i] == boolean.class ? (Object) (value == 1) : (Object) value;
                }
                Object answer = method.invoke(x, arguments);
                return answer instanceof Boolean is ? is ? 1 : 0 : (Integer) answer;
            }
        }
        throw new IllegalStateException("no call " + name);
    }

    private static long number(String written) {
        if (written.equals("TenthMan.NONE")) {
            return TenthMan.NONE;
        }
        return written.equals("true") ? 1 : written.equals("false") ? 0 : Long.decode(written);
    }

    /** Each call of the face stands in the table, in one row alone, and nothing else does. */
    private static void calls(Check c, String readme) {
        Set<String> face = new TreeSet<>();
        for (Method method : TenthMan.class.getDeclaredMethods()) {
            if (Modifier.isPublic(method.getModifiers())) {
                face.add(method.getName());
            }
        }
        Set<String> told = new TreeSet<>();
        int count = 0;
        for (String line : readme.split("\n")) {
            if (line.startsWith("| `")) {
                Matcher names = Pattern.compile("`(\\w+)`").matcher(line);
                while (names.find()) {
                    told.add(names.group(1));
                    count++;
                }
            }
        }
        c.due("the calls told are " + told, true, told.equals(face));
        c.due("each call is told once", face.size(), count);
    }

    private static void tests(Check c, String readme) throws IOException {
        Set<String> there = new TreeSet<>();
        try (DirectoryStream<Path> files = Files.newDirectoryStream(Path.of("src/test/java"), "*Test.java")) {
            for (Path file : files) {
                there.add(file.getFileName().toString().replace(".java", ""));
            }
        }
        Set<String> told = new TreeSet<>();
        Matcher names = Pattern.compile("`(\\w+Test)`").matcher(readme);
        while (names.find()) {
            told.add(names.group(1));
        }
        c.due("tests told are " + told, true, told.equals(there));
        Matcher helpers = Pattern.compile("`(?:src/test/java/)?(\\w+\\.java)`").matcher(readme);
        while (helpers.find()) {
            c.due(helpers.group(1) + " is there", true, Files.exists(Path.of("src/test/java", helpers.group(1))));
        }
    }
}

import java.io.ByteArrayOutputStream;
import java.io.File;
import java.io.PrintStream;
import java.lang.reflect.Method;
import java.lang.reflect.Modifier;
import java.nio.charset.StandardCharsets;
import java.nio.file.Files;
import java.nio.file.Path;
import java.util.HashMap;
import java.util.Map;
import java.util.regex.Matcher;
import java.util.regex.Pattern;

/** README.md says what is so: its program, its calls with their answers; and it leaves out no call and no test. */
public final class ReadmeTest {
    private static final Pattern ROW =
            Pattern.compile("^\\| `x\\.(\\w+)\\(([-0-9, ]*)\\)` \\| (\\S+) \\| .* \\|$", Pattern.MULTILINE);

    public static void main(String[] args) throws ReflectiveOperationException {
        Due.all(ReadmeTest.class);
    }

    private static String page() throws Exception {
        return Files.readString(Path.of("README.md"), StandardCharsets.UTF_8);
    }

    private static void says(String what, String text) throws Exception {
        Due.is("README.md has " + what, page().contains(text) ? 1 : 0, 1);
    }

    static void programIsTheOneThatStandsThere() throws Exception {
        String program = Files.readString(Path.of("src/test/java/Evening.java"), StandardCharsets.UTF_8);
        says("the program Evening", "```java\n" + program + "```\n");
    }

    static void programPrintsWhatIsTold() throws Exception {
        says("what Evening prints", "```text\n" + printed() + "```\n");
        says("what Evening prints of a fault", "`" + printed("street houses 5 storeys 4;").trim() + "`");
    }

    private static String printed(String... args) {
        PrintStream before = System.out;
        ByteArrayOutputStream bytes = new ByteArrayOutputStream();
        System.setOut(new PrintStream(bytes, true, StandardCharsets.UTF_8));
        Evening.main(args);
        System.setOut(before);
        return bytes.toString(StandardCharsets.UTF_8).replace("\r\n", "\n");
    }

    static void callsAnswerAsTold() throws Exception {
        OppositeNets x = new OppositeNets();
        Evening.put(x, Evening.STREET);
        x.street();
        Matcher row = ROW.matcher(page());
        int rows = 0;
        while (row.find()) {
            Due.is("x." + row.group(1) + "(" + row.group(2) + ") of README.md", asked(x, row.group(1), row.group(2)),
                    Integer.parseInt(row.group(3)));
            rows++;
        }
        Due.is("rows that tell a call", rows, page().lines().filter(l -> l.startsWith("| `")).count());
    }

    private static Map<String, Method> face() {
        Map<String, Method> face = new HashMap<>();
        for (Method m : OppositeNets.class.getDeclaredMethods()) {
            if (Modifier.isPublic(m.getModifiers())) {
                face.put(m.getName(), m);
            }
        }
        return face;
    }

    private static int asked(OppositeNets x, String name, String numbers) throws ReflectiveOperationException {
        String[] parts = numbers.isEmpty() ? new String[0] : numbers.split(", ");
        Method m = face().get(name);
        Object[] given = new Object[parts.length];
        for (int i = 0; i < parts.length; i++) {
            boolean isLong = m.getParameterTypes()[i] == long.class;
            given[i] = isLong ? (Object) Long.parseLong(parts[i]) : (Object) Integer.parseInt(parts[i]);
        }
        return (int) m.invoke(x, given);
    }

    static void everyCallIsNamed() throws Exception {
        for (String name : face().keySet()) {
            says("the call " + name, "`" + name + "(", "`x." + name + "(");
        }
    }

    private static void says(String what, String one, String other) throws Exception {
        Due.is("README.md has " + what, page().contains(one) || page().contains(other) ? 1 : 0, 1);
    }

    static void everyAnswerBelowZeroIsTold() throws Exception {
        for (int answer : new int[] {-1, -2, -3, -4, -5, -6, -7, -8, -1000}) {
            says("the answer " + answer, "` | " + answer + " | ");
        }
    }

    static void everyTestIsNamed() throws Exception {
        for (File f : new File("src/test/java").listFiles()) {
            String name = f.getName().replace(".java", "");
            says("the file " + name, "`" + name + "`", "`src/test/java/" + name + ".java`");
        }
    }
}

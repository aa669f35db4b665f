import java.io.IOException;
import java.lang.reflect.Method;
import java.lang.reflect.Modifier;
import java.nio.file.Files;
import java.nio.file.Path;
import java.util.List;
import java.util.Set;
import java.util.TreeSet;
import java.util.regex.Matcher;
import java.util.regex.Pattern;

/** The example in README.md answers what it says, and its table has each call of the face once. */
public final class ReadmeTest {
    private static final Pattern EXAMPLE = Pattern.compile(
            "scale\\.(\\w+\\(.*?\\)); +// (NONE|-?\\d+|throws \\w+): .*");
    private static final Pattern NAME = Pattern.compile("`(\\w+)`");

    private static int wrong = 0;

    public static void main(String[] args) throws IOException {
        List<String> lines = Files.readAllLines(Path.of("README.md"));
        int first = lines.indexOf("AxleScale scale = new AxleScale();");
        int calls = 0;
        AxleScale scale = new AxleScale();
        for (int k = first + 1; first >= 0 && k < lines.size() && !lines.get(k).equals("```"); k++) {
            checkExample(scale, lines.get(k));
            calls++;
        }
        if (calls == 0) {
            report("there is no example");
        }
        checkTable(lines);
        System.out.println(wrong == 0 ? "README.md says what is so" : wrong + " faults of README.md");
        if (wrong != 0) {
            System.exit(1);
        }
    }

    private static void report(String what) {
        wrong++;
        System.out.println("README.md: " + what);
    }

    private static void checkExample(AxleScale scale, String line) {
        Matcher m = EXAMPLE.matcher(line);
        if (!m.matches()) {
            report("no such line of an example: " + line);
            return;
        }
        String got = Call.read(m.group(1)).on(scale);
        String want = m.group(2).equals("NONE") ? String.valueOf(AxleScale.NONE)
                : m.group(2).replace("throws ", "throws.");
        if (!got.equals(want)) {
            report(m.group(1) + " answers " + got + ", it says " + want);
        }
    }

    private static void checkTable(List<String> lines) {
        Set<String> told = new TreeSet<>();
        for (String line : lines) {
            Matcher m = NAME.matcher(line.startsWith("| ") ? line : "");
            while (m.find()) {
                if (!told.add(m.group(1))) {
                    report("the table names " + m.group(1) + " twice");
                }
            }
        }
        Set<String> face = new TreeSet<>();
        for (Method method : AxleScale.class.getDeclaredMethods()) {
            if (Modifier.isPublic(method.getModifiers())) {
                face.add(method.getName());
            }
        }
        if (!told.equals(face)) {
            report("the table names " + told + ", the face has " + face);
        }
    }
}

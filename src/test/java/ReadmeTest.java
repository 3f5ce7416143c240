import java.io.File;
import java.io.IOException;
import java.lang.reflect.Method;
import java.lang.reflect.Modifier;
import java.nio.file.Files;
import java.nio.file.Path;
import java.util.Set;
import java.util.TreeSet;
import java.util.regex.Matcher;
import java.util.regex.Pattern;

/** README.md: each row of its example answers as it says, it shows every call, and it names every test. */
public final class ReadmeTest {
    private static final Pattern TEXT = Pattern.compile("String text = \"([^\"]*)\";");
    private static final Pattern ROW = Pattern.compile("x\\.(\\w+)\\(([^)]*)\\);\\s*// (-?\\w+)");

    public static void main(String[] args) throws IOException, ReflectiveOperationException {
        String readme = Files.readString(Path.of("README.md"));
        Set<String> shown = new TreeSet<>();
        SumColours x = new SumColours();
        for (String line : readme.split("\n")) {
            Matcher text = TEXT.matcher(line);
            Matcher row = ROW.matcher(line);
            if (text.find()) {
                Check.type(x, text.group(1));
                shown.add("letter");
            } else if (row.find()) {
                Check.due("README.md, " + line.trim(), answer(x, row.group(1), row.group(2)), told(row.group(3)));
                shown.add(row.group(1));
            }
        }
        allCallsAreShown(readme, shown);
        allTestsAreNamed(readme);
        Check.end("ReadmeTest");
    }

    private static long answer(SumColours x, String name, String written) throws ReflectiveOperationException {
        for (Method method : SumColours.class.getMethods()) {
            if (method.getName().equals(name)) {
                return ((Number) method.invoke(x, arguments(written))).longValue();
            }
        }
        return Long.MIN_VALUE;
    }

    private static Object[] arguments(String written) {
        String[] parts = written.isEmpty() ? new String[0] : written.split(", ");
        Object[] made = new Object[parts.length];
        for (int place = 0; place < parts.length; place++) {
            boolean truth = parts[place].equals("true") || parts[place].equals("false");
            made[place] = truth ? (Object) Boolean.valueOf(parts[place]) : (Object) Integer.valueOf(parts[place]);
        }
        return made;
    }

    /** A number, or the name of a constant of the face. */
    private static long told(String word) throws ReflectiveOperationException {
        boolean named = Character.isUpperCase(word.charAt(0));
        return named ? SumColours.class.getField(word).getInt(null) : Long.parseLong(word);
    }

    private static void allCallsAreShown(String readme, Set<String> shown) {
        for (Method method : SumColours.class.getDeclaredMethods()) {
            if (Modifier.isPublic(method.getModifiers())) {
                String name = method.getName();
                Check.due("the example shows " + name, shown.contains(name) ? 1 : 0, 1);
                Check.due("the table has " + name, readme.contains("| `" + name + "(") ? 1 : 0, 1);
            }
        }
    }

    private static void allTestsAreNamed(String readme) {
        String[] files = new File("src/test/java").list();
        Check.due("there are tests", files != null && files.length > 0 ? 1 : 0, 1);
        for (String file : files == null ? new String[0] : files) {
            String name = file.replace(".java", "");
            if (name.endsWith("Test")) {
                Check.due("README.md names " + name, readme.contains("| `" + name + "` |") ? 1 : 0, 1);
            }
        }
    }
}

import java.lang.reflect.Method;
import java.lang.reflect.Modifier;
import java.nio.charset.StandardCharsets;
import java.nio.file.Files;
import java.nio.file.Path;
import java.util.Map;
import java.util.Set;
import java.util.TreeMap;
import java.util.TreeSet;
import java.util.regex.Matcher;
import java.util.regex.Pattern;

/** The lines of README.md's examples answer what stands behind them, and README.md names every call. */
public final class LastLentReadme {
    private static final Pattern NEW = Pattern.compile("LastLent x = new LastLent\\(\\);");
    private static final Pattern TELL = Pattern.compile("tell\\(x, (\\d), \"([^\"]*)\"\\);\\s+// (-?\\d+)\\b.*");
    private static final Pattern CALL = Pattern.compile("x\\.(\\w+)\\(([^)]*)\\);\\s+// (-?\\d+)\\b.*");
    private static final Pattern ROW = Pattern.compile("\\| `(\\w+)\\(([^)]*)\\)` \\|.*");

    private static final Map<String, Method> face = new TreeMap<>();
    private static int wrong = 0;
    private static int answers = 0;
    private static LastLent x;

    public static void main(String[] args) throws Exception {
        for (Method method : LastLent.class.getDeclaredMethods()) {
            if (Modifier.isPublic(method.getModifiers())) {
                face.put(method.getName(), method);
            }
        }
        String[] lines = Files.readString(Path.of("README.md"), StandardCharsets.UTF_8).split("\n");
        examples(lines);
        table(lines);
        System.out.println(answers + " answers of README.md, " + wrong + " not as it says");
        if (wrong != 0) {
            System.exit(1);
        }
    }

    private static void must(boolean holds, String what) {
        if (!holds) {
            wrong++;
            System.out.println("not so: " + what);
        }
    }

    private static void examples(String[] lines) throws Exception {
        boolean inJava = false;
        for (String line : lines) {
            if (line.startsWith("```")) {
                inJava = line.equals("```java");
            } else if (inJava) {
                example(line);
            }
        }
        must(answers > 40, "README.md has examples");
    }

    private static void example(String line) throws Exception {
        Matcher told = TELL.matcher(line);
        Matcher called = CALL.matcher(line);
        if (NEW.matcher(line).matches()) {
            x = new LastLent();
        } else if (told.matches()) {
            due(line, tell(Integer.parseInt(told.group(1)), told.group(2)), told.group(3));
        } else if (called.matches()) {
            due(line, call(called.group(1), called.group(2)), called.group(3));
        } else {
            must(!line.startsWith("x.") && !line.startsWith("tell("), "a line with its answer: " + line);
        }
    }

    private static void due(String line, int got, String want) {
        answers++;
        must(got == Integer.parseInt(want), line + " (it answered " + got + ")");
    }

    private static int tell(int land, String text) {
        for (int i = 0; i < text.length(); i++) {
            x.feed(1, text.charAt(i));
        }
        return x.law(land);
    }

    private static int call(String name, String list) throws Exception {
        Method method = face.get(name);
        if (method == null) {
            must(false, "there is a call " + name);
            return LastLent.NONE;
        }
        String[] numbers = list.isEmpty() ? new String[0] : list.split(", ");
        Object[] given = new Object[numbers.length];
        for (int i = 0; i < given.length; i++) {
            given[i] = numbers[i].equals("true") ? (Object) Boolean.TRUE
                : numbers[i].equals("false") ? (Object) Boolean.FALSE : (Object) Integer.valueOf(numbers[i]);
        }
        return (Integer) method.invoke(x, given);
    }

    private static void table(String[] lines) {
        Set<String> named = new TreeSet<>();
        for (String line : lines) {
            Matcher row = ROW.matcher(line);
            if (row.matches()) {
                Method method = face.get(row.group(1));
                int numbers = row.group(2).isEmpty() ? 0 : row.group(2).split(", ").length;
                must(named.add(row.group(1)), row.group(1) + " stands once in the table");
                must(method != null && method.getParameterCount() == numbers, "the call of the row: " + line);
            }
        }
        must(named.equals(face.keySet()), "README.md names every call and no other: " + named);
    }
}

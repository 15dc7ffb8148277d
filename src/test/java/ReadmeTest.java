import java.io.IOException;
import java.lang.reflect.InvocationTargetException;
import java.lang.reflect.Method;
import java.nio.file.Files;
import java.nio.file.Path;
import java.util.List;
import java.util.TreeSet;
import java.util.regex.Matcher;
import java.util.regex.Pattern;

/** README.md tells of the class as it is: its tables hold every call, and its example answers as it says. */
public final class ReadmeTest {
    private static final Pattern ROW = Pattern.compile("\\| `(\\w+ \\w+\\(.*\\))` \\|.*");
    private static final Pattern SHOWN = Pattern.compile("(?:int best = )?alley\\.(\\w+)\\((.*)\\); +// (.*)");

    private final Checks checks = new Checks("ReadmeTest");
    private final SkittleStrings alley = new SkittleStrings();
    private int best;

    private ReadmeTest() {
    }

    public static void main(String[] args) throws IOException {
        List<String> lines = Files.readAllLines(Path.of("README.md"));
        ReadmeTest test = new ReadmeTest();
        test.tablesHoldEveryCall(lines);
        test.exampleAnswersAsShown(lines);
        test.checks.finish();
    }

    private void tablesHoldEveryCall(List<String> lines) {
        TreeSet<String> told = new TreeSet<>();
        for (String line : lines) {
            Matcher row = ROW.matcher(line);
            if (row.matches()) {
                told.add(row.group(1).replaceAll("(int) \\w+([,)])", "$1$2").replace(", ", ","));
            }
        }
        TreeSet<String> due = new TreeSet<>();
        for (Method method : SkittleStrings.class.getDeclaredMethods()) {
            String face = method.toString();
            if (face.startsWith("public ")) {
                due.add(face.replaceAll("public (\\w+) SkittleStrings\\.(\\w+\\(.*\\)).*", "$1 $2"));
            }
        }
        checks.same("the calls in its tables", due, told);
    }

    private void exampleAnswersAsShown(List<String> lines) {
        int shown = 0;
        for (String line : lines) {
            Matcher call = SHOWN.matcher(line);
            if (call.matches()) {
                shown++;
                String due = call.group(3).split("[ :;]")[0];
                if (due.equals("throws")) {
                    due = "java.lang." + call.group(3).split("[ :]")[1];
                }
                String answer = answer(call.group(1), call.group(2));
                checks.same(line, due, answer);
                best = line.startsWith("int best") ? Integer.parseInt(answer) : best;
            }
        }
        checks.same("calls in its example", true, shown >= 10);
    }

    private String answer(String name, String arguments) {
        String[] parts = arguments.isEmpty() ? new String[0] : arguments.split(", ");
        Class<?>[] types = new Class<?>[parts.length];
        Object[] numbers = new Object[parts.length];
        for (int i = 0; i < parts.length; i++) {
            types[i] = int.class;
            numbers[i] = number(parts[i]);
        }
        try {
            return String.valueOf(SkittleStrings.class.getMethod(name, types).invoke(alley, numbers));
        } catch (InvocationTargetException e) {
            return e.getCause().getClass().getName();
        } catch (ReflectiveOperationException e) {
            return "no such call";
        }
    }

    private int number(String written) {
        switch (written) {
            case "best / 10": return best / 10;
            case "best % 10": return best % 10;
            default: return Integer.parseInt(written);
        }
    }
}

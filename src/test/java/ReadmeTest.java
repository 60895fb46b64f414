import java.io.IOException;
import java.lang.reflect.Method;
import java.lang.reflect.Modifier;
import java.nio.file.Files;
import java.nio.file.Path;
import java.util.ArrayList;
import java.util.List;
import java.util.regex.Matcher;
import java.util.regex.Pattern;

/** README.md tells the truth: its example answers what it says, and no method is left out. */
public final class ReadmeTest {
    private static final Pattern MADE = Pattern.compile("RowOrders x = new RowOrders\\((-?\\d+)\\);.*");
    private static final Pattern CALL = Pattern.compile("x\\.(\\w+)\\((.*?)\\); +// ([^: ]+)(: .*)?");
    private static final Pattern METHOD = Pattern.compile("\\| `(\\w+\\(.*?\\))` \\|.*");

    public static void main(String[] args) throws IOException {
        Check check = new Check();
        List<String> readme = Files.readAllLines(Path.of("README.md"));
        check.sentence("README.md: how an object is made");
        example(check, readme);
        check.sentence("README.md: what each method asks for and answers");
        methods(check, readme);
        check.end();
    }

    private static void example(Check check, List<String> readme) {
        RowOrders x = null;
        int calls = 0;
        for (String line : readme) {
            Matcher made = MADE.matcher(line);
            Matcher call = CALL.matcher(line);
            if (made.matches()) {
                x = new RowOrders(Integer.parseInt(made.group(1)));
            } else if (line.startsWith("x.")) {
                check.due("can be read: " + line, call.matches() ? 1 : 0, 1);
                int[] given = arguments(call.group(2));
                check.due(line, Model.ask(x, call.group(1), given[0], given[1], given[2]), answer(call.group(3)));
                calls++;
            }
        }
        check.due("the example has calls", calls > 0 ? 1 : 0, 1);
    }

    private static int[] arguments(String told) {
        int[] given = new int[3];
        String[] parts = told.split(", ");
        for (int i = 0; i < parts.length; i++) {
            given[i] = parts[i].isEmpty() ? 0 : Integer.parseInt(parts[i]);
        }
        return given;
    }

    private static int answer(String told) {
        switch (told) {
            case "BAD_ARG": return RowOrders.BAD_ARG;
            case "NONE": return RowOrders.NONE;
            default: return Integer.parseInt(told);
        }
    }

    /** A method's row begins with its name and parameters. */
    private static void methods(Check check, List<String> readme) {
        List<String> rows = new ArrayList<>();
        for (String line : readme) {
            Matcher row = METHOD.matcher(line);
            if (row.matches()) {
                rows.add(row.group(1).replaceAll("int \\w+", "int").replace(" ", ""));
            }
        }
        for (Method method : RowOrders.class.getDeclaredMethods()) {
            if (Modifier.isPublic(method.getModifiers())) {
                String shown = method.toString().replaceAll(".*RowOrders\\.", "");
                check.due("a row for " + shown, rows.remove(shown) ? 1 : 0, 1);
            }
        }
        check.due("rows of no method " + rows, rows.size(), 0);
    }
}

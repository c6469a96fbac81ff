import java.io.IOException;
import java.lang.reflect.Method;
import java.lang.reflect.Modifier;
import java.nio.file.Files;
import java.nio.file.Path;
import java.util.Arrays;
import java.util.Set;
import java.util.TreeSet;
import java.util.regex.Matcher;
import java.util.regex.Pattern;

/** Runs the example of README.md, and looks whether the calls listed there are those of the class. */
public final class ReadmeTest {
    private static final Pattern CALL = Pattern.compile("x\\.(\\w+)\\(([^)]*)\\); +// (-?\\d+|true|false): .+");
    private static final Pattern TEXT = Pattern.compile("tell\\(x, \"([^\"]*)\"\\);");
    private static final String BEGIN = "ClosesAfterSeventh x = new ClosesAfterSeventh();\n";
    private static int wrong = 0;

    public static void main(String[] args) throws IOException, ReflectiveOperationException {
        String readme = Files.readString(Path.of("README.md"));
        runExample(readme);
        compareCalls(readme);
        System.out.println(wrong == 0 ? "README.md says what is so" : wrong + " faults in README.md");
        if (wrong != 0) {
            System.exit(1);
        }
    }

    private static void fault(String what) {
        wrong++;
        System.out.println(what);
    }

    private static void runExample(String readme) throws ReflectiveOperationException {
        int from = readme.indexOf(BEGIN);
        int to = from < 0 ? -1 : readme.indexOf("```", from);
        if (to < 0) {
            fault("there is no example");
            return;
        }
        ClosesAfterSeventh x = new ClosesAfterSeventh();
        for (String line : readme.substring(from + BEGIN.length(), to).split("\n")) {
            Matcher text = TEXT.matcher(line);
            Matcher call = CALL.matcher(line);
            if (text.matches()) {
                tell(x, text.group(1));
            } else if (call.matches()) {
                check(line, answer(x, call.group(1), call.group(2)), call.group(3));
            } else {
                fault("this can't be run: " + line);
            }
        }
    }

    private static void check(String line, String got, String told) {
        if (!got.equals(told)) {
            fault(line + " answered " + got);
        }
    }

    // As README.md tells it.
    private static void tell(ClosesAfterSeventh x, String text) {
        x.end(0);
        for (int i = 0; i < text.length(); i += 4) {
            int v = 0;
            for (int j = i; j < i + 4; j++) {
                v = v << 8 | (j < text.length() ? text.charAt(j) : 0);
            }
            x.sign(v);
        }
        x.end(text.length());
    }

    private static String answer(ClosesAfterSeventh x, String name, String told) throws ReflectiveOperationException {
        Object[] numbers = told.isEmpty() ? new Object[0]
                : Arrays.stream(told.split(", ")).map(Integer::valueOf).toArray();
        Class<?>[] types = new Class<?>[numbers.length];
        Arrays.fill(types, int.class);
        return String.valueOf(ClosesAfterSeventh.class.getMethod(name, types).invoke(x, numbers));
    }

    private static void compareCalls(String readme) {
        Set<String> due = new TreeSet<>();
        for (Method m : ClosesAfterSeventh.class.getDeclaredMethods()) {
            if (Modifier.isPublic(m.getModifiers())) {
                due.add(m.getName());
            }
        }
        Set<String> listed = new TreeSet<>();
        Matcher line = Pattern.compile("(?m)^\\| [^|]+ \\| (`.*`) \\|$").matcher(readme);
        while (line.find()) {
            for (String name : line.group(1).split(" ")) {
                listed.add(name.replace("`", ""));
            }
        }
        if (!due.equals(listed)) {
            fault("the calls are " + due + ", listed are " + listed);
        }
    }
}

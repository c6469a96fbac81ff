import java.io.IOException;
import java.nio.file.Files;
import java.nio.file.Path;
import java.util.ArrayList;
import java.util.Arrays;
import java.util.List;
import java.util.regex.Matcher;
import java.util.regex.Pattern;

/** What of LANGUAGE.md can be seen in the text of the class: words it rules out, and how long things may be. */
public final class RulesTest {
    private static final Path SOURCE = Path.of("src/main/java/ClosesAfterSeventh.java");
    private static final String[] FORBIDDEN = {"->", "::", "\\bfinally\\b", "\\bsynchronized\\b", "\\bassert\\b",
        "\\bcatch\\b", "\\btry\\b", "\\bprotected\\b", "\\bpackage\\b", "\\bvar\\b", "\\bNaN\\b", "Exact\\(", "\\bSystem\\.out\\b",
        "\\bnanoTime\\b", "\\bRandom\\b", "\\bObject\\b", "\\.equals\\(", "\\bhashCode\\b", "\\btoString\\b",
        "\\bgetMessage\\b", "\\bwhile \\(true\\)", "\\bfor \\(;;"};
    private static int wrong = 0;

    public static void main(String[] args) throws IOException {
        String whole = Files.readString(SOURCE);
        String code = whole.replaceAll("(?s)/\\*.*?\\*/", "").replaceAll("//[^\n]*", "");
        for (String word : FORBIDDEN) {
            if (Pattern.compile(word).matcher(code).find()) {
                fault("it has " + word);
            }
        }
        checkImports(code);
        checkThrows(code);
        checkClasses(code);
        checkMethods(whole);
        System.out.println(wrong == 0 ? "the text keeps to the rules" : wrong + " breaches of the rules");
        if (wrong != 0) {
            System.exit(1);
        }
    }

    private static void fault(String what) {
        wrong++;
        System.out.println(what);
    }

    private static void checkImports(String code) {
        Matcher m = Pattern.compile("import ([\\w.]+);").matcher(code);
        while (m.find()) {
            if (!List.of("java.util.Arrays", "java.util.NoSuchElementException").contains(m.group(1))) {
                fault("it imports " + m.group(1));
            }
        }
    }

    private static void checkThrows(String code) {
        Matcher m = Pattern.compile("throw [^;]*;").matcher(code);
        while (m.find()) {
            if (!m.group().matches("throw new NoSuchElementException\\(\"[^\"]*\"\\);")) {
                fault("it throws otherwise: " + m.group());
            }
        }
    }

    private static void checkClasses(String code) {
        List<String> classes = new ArrayList<>();
        List<Integer> starts = new ArrayList<>();
        Matcher m = Pattern.compile("\\b(class|enum|interface|record) (\\w+)").matcher(code);
        while (m.find()) {
            classes.add(m.group(2));
            starts.add(m.start());
        }
        if (classes.size() > 12) {
            fault(classes.size() + " classes");
        }
        for (int i = 0; i < starts.size(); i++) {
            String body = code.substring(starts.get(i), i + 1 < starts.size() ? starts.get(i + 1) : code.length());
            String indent = i == 0 ? " {4}" : " {8}";
            Matcher field = Pattern.compile("(?m)^" + indent + "(?:private )?(?:final )?(?:int|long|char|boolean|[A-Z]\\w*)"
                    + "(?:\\[\\])* \\w+(?: = [^;]*)?;").matcher(body);
            int fields = 0;
            while (field.find()) {
                fields++;
            }
            if (fields > 20) {
                fault(classes.get(i) + " has " + fields + " fields");
            }
        }
    }

    private static void checkMethods(String whole) {
        String[] lines = whole.split("\n");
        for (int i = 0; i < lines.length; i++) {
            if (lines[i].length() > 120) {
                fault("line " + (i + 1) + " is long");
            }
            Matcher m = Pattern.compile("^( {4}| {8})(?! )[^=;]*\\b(\\w+)\\(([^)]*)\\)[^;=]*\\{$").matcher(lines[i]);
            if (m.matches() && !lines[i].contains(" class ")) {
                int length = 1;
                while (i + length < lines.length && !lines[i + length].equals(m.group(1) + "}")) {
                    length++;
                }
                if (length > 60) {
                    fault(m.group(2) + " has " + length + " lines");
                }
                if (m.group(3).split(",").length > 7) {
                    fault(m.group(2) + " has too many parameters");
                }
                String body = String.join("\n", Arrays.asList(lines).subList(i + 1, Math.min(i + length, lines.length)));
                boolean recursive = Pattern.compile("(?<![.\\w])" + m.group(2) + "\\(").matcher(body).find();
                if (recursive && !lines[i].trim().startsWith("private ")) {
                    fault(m.group(2) + " calls itself and is not private");
                }
            }
        }
    }
}

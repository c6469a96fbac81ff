import java.io.IOException;
import java.lang.reflect.InvocationTargetException;
import java.lang.reflect.Method;
import java.nio.charset.StandardCharsets;
import java.nio.file.Files;
import java.nio.file.Path;
import java.util.ArrayList;
import java.util.Arrays;
import java.util.List;
import java.util.NoSuchElementException;
import java.util.Set;
import java.util.TreeSet;
import java.util.regex.Matcher;
import java.util.regex.Pattern;
import java.util.stream.Stream;

/**
 * The boundary cases, sentence by sentence: src/test/boundaries has, behind each sentence of the document, calls with
 * the answers that are due (its README.md tells the form). Of every call there, it is looked at too, whether it
 * changes anything that it should not; and that no word of the document is without calls.
 */
public final class BoundariesTest {
    private static final Path RUNS = Path.of("src/test/boundaries");
    private static final Path DOCUMENT = Path.of("../shared/DOC.md");
    private static final int PROMISES = 43;
    private static final int MOST_CALLS = 512;
    private static final Set<String> CHANGING = Set.of("sign", "end", "house", "price", "sheet", "keeps", "hours",
            "pass", "goes", "day", "says", "put", "again");
    private static final Set<String> TELLING = Set.of("way", "goes", "fro", "crowd", "many", "counts", "more", "build",
            "home", "fire", "day", "would", "plan", "order", "leave", "tour", "send", "two", "keep", "sure", "trust",
            "safe");
    private static final Set<String> READING = Set.of("house", "price");
    private static final String THROWN = "throws";
    private static int wrong = 0;

    private final List<Section> sections = new ArrayList<>();

    public static void main(String[] args) throws IOException {
        BoundariesTest test = new BoundariesTest();
        test.readAll();
        int calls = 0;
        for (Section s : test.sections) {
            calls += s.run();
        }
        test.checkPromises();
        if (Files.isReadable(DOCUMENT)) {
            test.checkDocument();
        } else {
            System.out.println("no " + DOCUMENT + " to look the sentences up");
        }
        System.out.println(wrong == 0 ? test.sections.size() + " sentences, " + calls + " calls: all boundaries hold"
                : wrong + " faults at boundaries");
        if (wrong != 0) {
            System.exit(1);
        }
    }

    private static void fault(String what) {
        wrong++;
        System.out.println(what);
    }

    // ---- reading the runs

    private static final Pattern HEAD = Pattern.compile("== (\\d+) [^:]*?(, Terms)?: (.*)");
    private static final Pattern CALL = Pattern.compile("(\\w+)\\((.*)\\) (?:= (\\S+)|(throws))");
    private static final Pattern WRITTEN = Pattern.compile("(text|house|price) \"(.*)\"(?: = (\\S+))?");

    private void readAll() throws IOException {
        List<Path> files = new ArrayList<>();
        try (Stream<Path> all = Files.list(RUNS)) {
            all.filter(p -> p.toString().endsWith(".txt")).sorted().forEach(files::add);
        }
        for (Path file : files) {
            int number = 0;
            for (String line : Files.readAllLines(file, StandardCharsets.US_ASCII)) {
                number++;
                readLine(file.getFileName() + ":" + number, line.replaceAll("(^|\\s\\s)#.*$", "").strip());
            }
        }
    }

    private void readLine(String place, String line) {
        Matcher head = HEAD.matcher(line);
        if (head.matches()) {
            sections.add(new Section(Integer.parseInt(head.group(1)), head.group(2) != null, head.group(3)));
        } else if (!line.isEmpty()) {
            sections.get(sections.size() - 1).add(place, line);
        }
    }

    private static String unfold(String s) {
        Matcher repeated = Pattern.compile("\\{(\\d+):([^}]*)\\}").matcher(s);
        String out = repeated.replaceAll(r -> Matcher.quoteReplacement(r.group(2).repeat(Integer.parseInt(r.group(1)))));
        Matcher coded = Pattern.compile("\\\\x([0-9a-fA-F]{2})").matcher(out);
        return coded.replaceAll(r -> Matcher.quoteReplacement(
                String.valueOf((char) Integer.parseInt(r.group(1), 16))));
    }

    private static int number(String s) {
        return s.equals("MIN") ? Integer.MIN_VALUE : s.equals("MAX") ? Integer.MAX_VALUE : Integer.decode(s);
    }

    // A place for an argument may name several: each is called.
    private static List<int[]> argumentLists(String s) {
        List<int[]> lists = new ArrayList<>();
        lists.add(new int[0]);
        if (s.isBlank()) {
            return lists;
        }
        for (String place : s.split(", ")) {
            List<int[]> longer = new ArrayList<>();
            for (int[] begun : lists) {
                for (String value : place.split("\\|")) {
                    int[] one = Arrays.copyOf(begun, begun.length + 1);
                    one[begun.length] = number(value);
                    longer.add(one);
                }
            }
            lists = longer;
        }
        return lists;
    }

    // ---- what a run is made of

    private interface Step {
        /** What it answers, as it is written; null if nothing. */
        String on(House x);

        default String name() {
            return "";
        }
    }

    /** An object that counts what it is asked. */
    private static final class House {
        final ClosesAfterSeventh x = new ClosesAfterSeventh();
        int calls = 0;

        String call(String name, int... arguments) {
            calls++;
            Class<?>[] types = new Class<?>[arguments.length];
            Object[] values = new Object[arguments.length];
            for (int i = 0; i < arguments.length; i++) {
                types[i] = int.class;
                values[i] = arguments[i];
            }
            try {
                Method m = ClosesAfterSeventh.class.getMethod(name, types);
                return String.valueOf(m.invoke(x, values));
            } catch (InvocationTargetException e) {
                return e.getCause().getClass() == NoSuchElementException.class ? THROWN : e.getCause().toString();
            } catch (ReflectiveOperationException e) {
                throw new IllegalStateException("no such call: " + name + Arrays.toString(arguments), e);
            }
        }

        int asked(String name, int... arguments) {
            return Integer.parseInt(call(name, arguments));
        }

        String row() {
            StringBuilder s = new StringBuilder();
            int size = asked("count", 7);
            for (int i = 0; i < size; i++) {
                s.append(i == 0 ? "" : " ").append(call("row", i));
            }
            return s.toString();
        }
    }

    private record Written(String signs) implements Step {
        @Override
        public String on(House x) {
            x.call("end", 0);
            for (int i = 0; i < signs.length(); i += 4) {
                int v = 0;
                for (int j = i; j < i + 4; j++) {
                    v = v << 8 | (j < signs.length() ? signs.charAt(j) : 0);
                }
                x.call("sign", v);
            }
            return x.call("end", signs.length());
        }
    }

    private record Called(String name, int[] arguments) implements Step {
        @Override
        public String on(House x) {
            return x.call(name, arguments);
        }

        @Override
        public String toString() {
            return name + Arrays.toString(arguments).replace('[', '(').replace(']', ')');
        }
    }

    private record Rowed() implements Step {
        @Override
        public String on(House x) {
            return x.row();
        }

        @Override
        public String toString() {
            return "the ROW";
        }
    }

    private record Renewed() implements Step {
        @Override
        public String on(House x) {
            return null;
        }
    }

    private static final class Section {
        final int promise;
        final boolean terms;
        final String quote;
        final List<String> places = new ArrayList<>();
        final List<Step> steps = new ArrayList<>();
        final List<String> due = new ArrayList<>();

        Section(int promise, boolean terms, String quote) {
            this.promise = promise;
            this.terms = terms;
            this.quote = quote;
        }

        void add(String place, String line) {
            Matcher call = CALL.matcher(line);
            Matcher written = WRITTEN.matcher(line);
            if (line.equals("new")) {
                put(place, new Renewed(), null);
            } else if (line.equals("row") || line.startsWith("row ")) {
                put(place, new Rowed(), line.substring(3).strip());
            } else if (written.matches()) {
                addWritten(place, written);
            } else if (call.matches()) {
                for (int[] arguments : argumentLists(call.group(2))) {
                    put(place, new Called(call.group(1), arguments), call.group(4) != null ? THROWN : call.group(3));
                }
            } else {
                throw new IllegalStateException(place + " can't be read: " + line);
            }
        }

        private void addWritten(String place, Matcher m) {
            String signs = unfold(m.group(2));
            put(place, new Written(signs), "true");
            if (!m.group(1).equals("text")) {
                int lines = m.group(1).equals("price") || signs.isEmpty() ? 0 : signs.split(";", -1).length;
                put(place, new Called(m.group(1), new int[0]), m.group(3) == null ? String.valueOf(lines) : m.group(3));
            }
        }

        private void put(String place, Step step, String answer) {
            places.add(place);
            steps.add(step);
            due.add(answer);
        }

        int run() {
            House x = new House();
            int start = 0;
            for (int i = 0; i < steps.size(); i++) {
                if (steps.get(i) instanceof Renewed) {
                    x = new House();
                    start = i;
                    continue;
                }
                String got = steps.get(i).on(x);
                if (!due.get(i).equals(got)) {
                    fault(told(i) + " answered " + got + ", due is " + due.get(i));
                }
                if (steps.get(i) instanceof Called call) {
                    checkChanges(start, i, call.name(), got);
                }
                if (x.calls > MOST_CALLS) {
                    fault(told(i) + ": too many calls of one object");
                }
            }
            return steps.size();
        }

        private String told(int i) {
            return places.get(i) + ": " + steps.get(i) + " of \"" + quote + "\"";
        }

        private House replayed(int from, int to) {
            House x = new House();
            for (int i = from; i < to; i++) {
                steps.get(i).on(x);
            }
            return x;
        }

        private void checkChanges(int start, int i, String name, String answer) {
            boolean reads = READING.contains(name);
            boolean refused = answer.equals("false") || answer.equals(THROWN)
                    || (reads ? answer.startsWith("-") : answer.equals("-1"));
            House before = replayed(start, i);
            House behind = replayed(start, i + 1);
            if ((refused || !TELLING.contains(name)) && !before.row().equals(behind.row())) {
                fault(told(i) + " changes the ROW");
            }
            if (reads && behind.asked("count", 8) != 0) {
                fault(told(i) + " leaves signs of THE TEXT");
            }
            if (!refused && CHANGING.contains(name)) {
                return;
            }
            String was = state(before, !reads) + keptState(start, i);
            String is = state(behind, !reads) + keptState(start, i + 1);
            if (!was.equals(is)) {
                fault(told(i) + " changes what it should not:\n    " + was + "\n    " + is);
            }
        }

        private String keptState(int start, int to) {
            StringBuilder s = new StringBuilder();
            for (int i = 0; i < 3; i++) {
                House x = replayed(start, to);
                s.append(" kept ").append(x.call("again", i)).append(state(x, false));
            }
            return s.toString();
        }
    }

    /** All that can be seen of an object, but for the ROW; the signs of THE TEXT are seen by reading them. */
    private static String state(House x, boolean text) {
        StringBuilder s = new StringBuilder();
        for (int what : new int[] {0, 1, 2, 3, 4, 5, 6, 9}) {
            s.append(' ').append(x.call("count", what));
        }
        s.append(" doors");
        for (int d = 0; d < x.asked("count", 0); d++) {
            for (int what = 0; what <= 5; what++) {
                s.append(' ').append(x.call("door", d, what));
            }
            s.append('/').append(x.call("priced", 0, d));
        }
        s.append(" people");
        for (int p = 0; p < x.asked("count", 1); p++) {
            for (int what = 0; what <= 7; what++) {
                s.append(' ').append(x.call("of", p, what));
            }
        }
        for (int maid = 0; maid < 4; maid++) {
            s.append(" maid ").append(x.call("trust", maid)).append(' ').append(x.row());
        }
        if (text) {
            s.append(" text ").append(x.call("count", 8)).append(' ').append(x.call("house"));
            s.append(' ').append(x.call("count", 0)).append(' ').append(x.call("count", 1));
        }
        return s.toString();
    }

    // ---- the document

    private void checkPromises() {
        TreeSet<Integer> met = new TreeSet<>();
        for (Section s : sections) {
            met.add(s.promise);
            if (s.steps.isEmpty()) {
                fault("no calls for \"" + s.quote + "\"");
            }
        }
        for (int n = 1; n <= PROMISES; n++) {
            if (!met.contains(n)) {
                fault("no calls for promise " + n);
            }
        }
    }

    private void checkDocument() throws IOException {
        String document = Files.readString(DOCUMENT).replaceAll("(?m)^```.*$|^\\d+\\. ", " ");
        String terms = between(document, "## Terms", "Ahead of the calls");
        boolean[] termsMet = new boolean[terms.length()];
        for (int n = 1; n <= PROMISES; n++) {
            String body = between(document, "## Promise " + n + ":", "\n## ");
            body = body.substring(body.indexOf("`:") + 2);
            boolean[] met = new boolean[body.length()];
            for (Section s : sections) {
                if (s.promise == n) {
                    mark(s.terms ? terms : body, s.terms ? termsMet : met, s);
                }
            }
            reportUnmet("promise " + n, body, met);
        }
        reportUnmet("Terms", terms, termsMet);
    }

    private static String between(String document, String head, String tail) {
        int from = document.indexOf(head) + head.length();
        int to = document.indexOf(tail, from);
        return document.substring(from, to < 0 ? document.length() : to).replaceAll("\\s+", " ");
    }

    private static void mark(String body, boolean[] met, Section s) {
        int at = body.indexOf(s.quote);
        if (at < 0) {
            fault("promise " + s.promise + " does not say: " + s.quote);
        }
        for (; at >= 0; at = body.indexOf(s.quote, at + 1)) {
            Arrays.fill(met, at, at + s.quote.length(), true);
        }
    }

    private static void reportUnmet(String name, String body, boolean[] met) {
        StringBuilder unmet = new StringBuilder();
        for (int i = 0; i < body.length(); i++) {
            unmet.append(met[i] ? '_' : body.charAt(i));
        }
        String words = unmet.toString().replaceAll("_+", " _ ");
        if (words.matches("(?s).*\\w.*") && words.replace("_", "").matches("(?s).*\\w.*")) {
            fault(name + " has words without calls:" + words);
        }
    }
}

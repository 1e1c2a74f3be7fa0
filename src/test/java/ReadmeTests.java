import java.io.IOException;
import java.lang.reflect.InvocationTargetException;
import java.lang.reflect.Method;
import java.nio.file.Files;
import java.nio.file.Path;
import java.util.ArrayList;
import java.util.HashMap;
import java.util.List;
import java.util.Map;
import java.util.Set;
import java.util.TreeSet;
import java.util.concurrent.TimeUnit;
import java.util.regex.Matcher;
import java.util.regex.Pattern;
import java.util.stream.Stream;

/** README.md followed word for word: its commands on a clean copy, its faults, its tables of calls. */
public final class ReadmeTests {
    private static final Path PLACE = Path.of("README.md");
    /** What runs these tests is not run by them. */
    private static final String ALL_TESTS = ".ci/run\n";

    private final Check check;
    private final String readme;

    private ReadmeTests(Check check) throws IOException {
        this.check = check;
        this.readme = Files.readString(PLACE);
    }

    public static void main(String[] args) throws Exception {
        Check check = new Check("ReadmeTests");
        ReadmeTests tests = new ReadmeTests(check);
        tests.commands();
        check.begin("faults");
        tests.faults();
        check.finish();
        check.begin("calls");
        tests.calls();
        check.finish();
        check.close();
    }

    // ---- commands ----

    private void commands() throws IOException, InterruptedException {
        Path around = Files.createTempDirectory("readme");
        try {
            Path copy = Files.createDirectory(around.resolve("main"));
            Files.createSymbolicLink(around.resolve("shared"), Path.of("../shared").toRealPath());
            copy(Path.of("src"), copy.resolve("src"));
            Matcher blocks = Pattern.compile("(?ms)^```sh\n(.*?)^```\n(?:\nIt prints\n\n```text\n(.*?)^```\n)?")
                    .matcher(readme);
            int all = 0;
            int printing = 0;
            while (blocks.find()) {
                all++;
                printing += blocks.group(2) == null ? 0 : 1;
                follow(blocks.group(1), blocks.group(2), copy);
            }
            check.begin("blocks of commands");
            check.due("blocks", all, 3);
            check.due("blocks with what they print", printing, 1);
            check.finish();
        } finally {
            remove(around);
        }
    }

    private void follow(String block, String printed, Path folder) throws IOException, InterruptedException {
        check.begin("commands: " + block.lines().findFirst().orElse(""));
        if (block.equals(ALL_TESTS)) {
            check.due(".ci/run is there to be run", Files.isExecutable(Path.of(ALL_TESTS.trim())) ? 1 : 0, 1);
        } else {
            Path out = folder.resolve("printed");
            Process shell = new ProcessBuilder("sh", "-e", "-c", block).directory(folder.toFile())
                    .redirectErrorStream(true).redirectOutput(out.toFile()).start();
            shell.getOutputStream().close();
            boolean ended = shell.waitFor(5, TimeUnit.MINUTES);
            check.due("ends", ended ? 1 : 0, 1);
            check.due("ends with", ended ? shell.exitValue() : -1, 0);
            String got = Files.readString(out);
            if (printed != null && !got.equals(printed)) {
                check.wrong("printed " + got + ", due is " + printed);
            }
            if (!ended || shell.exitValue() != 0) {
                check.wrong("printed " + got);
            }
        }
        check.finish();
    }

    private static List<Path> below(Path folder) throws IOException {
        try (Stream<Path> found = Files.walk(folder)) {
            return new ArrayList<>(found.toList());
        }
    }

    private static void copy(Path from, Path to) throws IOException {
        for (Path each : below(from)) {
            Files.copy(each, to.resolve(from.relativize(each)));
        }
    }

    private static void remove(Path folder) throws IOException {
        List<Path> all = below(folder);
        for (int i = all.size() - 1; i >= 0; i--) {
            Files.delete(all.get(i));
        }
    }

    // ---- texts and tables ----

    private void faults() {
        Matcher rows = Pattern.compile("(?m)^\\| `([^`]*)` \\| (\\d+) \\| (\\d+) \\| ").matcher(readme);
        Set<String> told = new TreeSet<>();
        while (rows.find()) {
            String text = rows.group(1);
            LeashedNames x = new LeashedNames();
            check.due("state() of " + text, Check.tell(x, text), -4);
            check.due("fault(0) of " + text, x.fault(0), Long.parseLong(rows.group(2)));
            check.due("fault(1) of " + text, x.fault(1), Long.parseLong(rows.group(3)));
            told.add(rows.group(2));
        }
        check.due("faults told " + told, told.size(), 3);
    }

    /** One table behind the other on one object, as the README says. */
    private void calls() throws IllegalAccessException, InvocationTargetException {
        Map<String, Method> face = new HashMap<>();
        for (Method method : LeashedNames.class.getMethods()) {
            if (method.getDeclaringClass() == LeashedNames.class) {
                face.put(method.getName(), method);
            }
        }
        Set<String> left = new TreeSet<>(face.keySet());
        Set<Long> below = new TreeSet<>();
        LeashedNames x = Check.of(town());
        Matcher rows = Pattern.compile("(?m)^\\| `(\\w+)\\(([^`]*)\\)` \\| (-?\\d+) \\| ").matcher(readme);
        while (rows.find()) {
            String call = rows.group(1) + "(" + rows.group(2) + ")";
            long want = Long.parseLong(rows.group(3));
            Method method = face.get(rows.group(1));
            if (method == null) {
                check.wrong("there is no " + call);
                continue;
            }
            check.due(call, ((Number) method.invoke(x, numbers(method, rows.group(2)))).longValue(), want);
            left.remove(rows.group(1));
            if (want < 0) {
                below.add(want);
            }
        }
        check.due("calls that no table has " + left, left.size(), 0);
        check.due("answers below 0 " + below, below.size(), 9);
    }

    private String town() {
        String quotes = "\"\"\"";
        int from = readme.indexOf(quotes) + quotes.length();
        return readme.substring(from, readme.indexOf(quotes, from)).stripIndent().stripLeading();
    }

    private static Object[] numbers(Method method, String told) {
        String[] each = told.isEmpty() ? new String[0] : told.split(", ");
        Object[] numbers = new Object[each.length];
        for (int i = 0; i < each.length; i++) {
            boolean isLong = method.getParameterTypes()[i] == long.class;
            numbers[i] = isLong ? (Object) Long.valueOf(each[i]) : (Object) Integer.valueOf(each[i]);
        }
        return numbers;
    }
}

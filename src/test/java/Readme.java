import java.io.IOException;
import java.lang.reflect.InvocationTargetException;
import java.lang.reflect.Method;
import java.lang.reflect.Modifier;
import java.nio.charset.StandardCharsets;
import java.nio.file.Files;
import java.nio.file.Path;
import java.util.ArrayList;
import java.util.Arrays;
import java.util.List;
import java.util.Set;
import java.util.TreeSet;
import java.util.regex.Matcher;
import java.util.regex.Pattern;
import java.util.stream.Stream;

/** README.md: the calls that it shows answer what it says, and the tests run in the way that it tells. */
public final class Readme {
    private static final String MAKING = "WhoseHourItIs week = new WhoseHourItIs();";
    /** A call, and behind it what it answers, at times with words. */
    private static final Pattern CALL = Pattern.compile("week\\.(\\w+)\\((.*?)\\); // (-?\\d+)(?![\\d.])(.*)");
    private static final Pattern FED = Pattern.compile(": \"([^\"]+)\" .+");
    private static final Pattern LISTED = Pattern.compile("(?m)^- (`\\w+`(?:, `\\w+`)*)");
    private static final Path TESTS = Path.of("src/test/java");

    private final Due due = new Due();
    private final String text;
    private final Set<String> shown = new TreeSet<>();
    private WhoseHourItIs week;

    private Readme(String text) {
        this.text = text;
    }

    public static void main(String[] args) throws Exception {
        Readme r = new Readme(Files.readString(Path.of("README.md")));
        r.use();
        r.everyCallIsShown();
        r.waysToRun();
        r.everyTestIsTold();
        r.due.end();
    }

    private void right(String what, boolean holds) {
        due.is("README.md: " + what, holds ? 1 : 0, 1);
    }

    /** The lines of all blocks of a language, in their order. */
    private List<String> lines(String language) {
        List<String> found = new ArrayList<>();
        Matcher m = Pattern.compile("(?s)```" + language + "\n(.*?)```").matcher(text);
        while (m.find()) {
            found.addAll(Arrays.asList(m.group(1).split("\n")));
        }
        return found;
    }

    private void use() throws IllegalAccessException, InvocationTargetException {
        for (String line : lines("java")) {
            Matcher m = CALL.matcher(line);
            if (line.equals(MAKING)) {
                week = new WhoseHourItIs();
            } else if (week != null && m.matches()) {
                show(line, m);
            } else {
                right("a line that is no call with its answer: " + line, false);
            }
        }
    }

    private void show(String line, Matcher m) throws IllegalAccessException, InvocationTargetException {
        Method method = named(m.group(1));
        String[] told = m.group(2).isEmpty() ? new String[0] : m.group(2).split(", ");
        if (method == null || method.getParameterCount() != told.length) {
            right("no such call: " + line, false);
            return;
        }
        Object[] arguments = new Object[told.length];
        for (int i = 0; i < told.length; i++) {
            arguments[i] = argument(method.getParameterTypes()[i], told[i]);
        }
        due.is("README.md: " + line, (int) method.invoke(week, arguments), Integer.parseInt(m.group(3)));
        shown.add(method.getName());
        if (method.getName().equals("feed")) {
            Matcher fed = FED.matcher(m.group(4));
            right("the text that is fed: " + line,
                fed.matches() && fed.group(1).equals(bytes((Integer) arguments[0], (Long) arguments[1])));
        }
    }

    private static Method named(String name) {
        for (Method method : WhoseHourItIs.class.getDeclaredMethods()) {
            if (Modifier.isPublic(method.getModifiers()) && method.getName().equals(name)) {
                return method;
            }
        }
        return null;
    }

    private static Object argument(Class<?> type, String told) {
        if (type == long.class) {
            return Long.decode(told.replace("L", ""));
        }
        return Integer.valueOf(told);
    }

    private static String bytes(int n, long bytes) {
        byte[] row = new byte[n];
        for (int i = 0; i < n; i++) {
            row[i] = (byte) (bytes >>> 8 * i);
        }
        // A byte above n must not stand in what is shown, though it would not come.
        boolean more = n < 8 && bytes >>> 8 * n != 0;
        return more ? "" : new String(row, StandardCharsets.ISO_8859_1);
    }

    private void everyCallIsShown() {
        for (Method method : WhoseHourItIs.class.getDeclaredMethods()) {
            if (Modifier.isPublic(method.getModifiers())) {
                right(method.getName() + " is shown", shown.contains(method.getName()));
            }
        }
    }

    /** The first way runs this test, too: it is at work now. The others are run. */
    private void waysToRun() throws IOException, InterruptedException {
        List<String> ways = lines("sh");
        right("all tests", ways.contains(".ci/run"));
        right(".ci/run can be run", Files.isExecutable(Path.of(".ci/run")));
        for (String way : ways) {
            List<String> words = Arrays.asList(way.split(" "));
            if (way.equals(".ci/run")) {
                continue;
            }
            boolean fits = words.get(0).equals(".ci/run") && isTest(words.get(1)) && !words.get(1).equals("Readme");
            right("a way to run one test: " + way, fits && endsWith(0, words));
        }
        right("a test that is not there fails", endsWith(1, List.of(".ci/run", "NoSuchTest")));
        right("a helper is no test", endsWith(1, List.of(".ci/run", "Due")));
    }

    private static boolean endsWith(int code, List<String> words) throws IOException, InterruptedException {
        Process process = new ProcessBuilder(words).redirectErrorStream(true).start();
        String said = new String(process.getInputStream().readAllBytes(), StandardCharsets.UTF_8);
        boolean ended = process.waitFor() == code;
        if (!ended) {
            System.out.println(String.join(" ", words) + " said:\n" + said);
        }
        return ended;
    }

    private static boolean isTest(String name) throws IOException {
        Path file = TESTS.resolve(name + ".java");
        return Files.exists(file) && Files.readString(file).contains("void main(");
    }

    private void everyTestIsTold() throws IOException {
        Set<String> told = new TreeSet<>();
        Matcher m = LISTED.matcher(text);
        while (m.find()) {
            told.addAll(Arrays.asList(m.group(1).replace("`", "").split(", ")));
        }
        Set<String> there = new TreeSet<>();
        try (Stream<Path> files = Files.list(TESTS)) {
            for (Path file : (Iterable<Path>) files::iterator) {
                String name = file.getFileName().toString().replace(".java", "");
                if (isTest(name)) {
                    there.add(name);
                }
            }
        }
        right("the tests told " + told + " are those there " + there, told.equals(there));
    }
}

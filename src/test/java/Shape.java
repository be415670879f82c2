import java.io.IOException;
import java.lang.reflect.Method;
import java.nio.file.Files;
import java.nio.file.Path;
import java.util.ArrayList;
import java.util.LinkedHashMap;
import java.util.LinkedHashSet;
import java.util.List;
import java.util.Map;
import java.util.Set;
import java.util.regex.Matcher;
import java.util.regex.Pattern;

/** LANGUAGE.md, rules 8, 11 and 12, by the source's lines: how long and how deep methods are, what makes objects. */
public final class Shape {
    private static final int MOST_LINES = 60;
    private static final int DEEPEST = 8;
    private static final Set<String> WORDS = Set.of("if", "for", "while", "switch", "return", "new");
    /** The only method that may call itself: a level for each of three works in a row. */
    private static final Set<String> RECURSIVE = Set.of("tryRow");
    private static final Pattern HEADER =
        Pattern.compile("( +)(?:(?:public|private|static|final) )*(?!public\\b)[\\w\\[\\]]+ (\\w+)\\([^;]*\\) \\{");
    private static final Pattern CALL = Pattern.compile("\\b(\\w+)\\(");
    private static final Pattern ROW_OF_A_FIELD = Pattern.compile("(?: {4}){1,2}(?:private )?final \\S+ \\w+ = new [^;]+;");

    private final Due due = new Due();
    private final String[] lines;
    /** By names: methods of one name in two classes are taken as one, which calls what either calls. */
    private final Map<String, Set<String>> calls = new LinkedHashMap<>();
    private final Map<String, Integer> depths = new LinkedHashMap<>();
    private int methods;

    private Shape(String text) {
        lines = text.replaceAll("(?s)/\\*.*?\\*/", "").replaceAll("//[^\n]*", "").split("\n");
    }

    public static void main(String[] args) throws IOException {
        Shape s = new Shape(Files.readString(Path.of("src/main/java/WhoseHourItIs.java")));
        s.readMethods();
        s.everyMethodIsRead();
        s.depth();
        s.objects();
        s.due.end();
    }

    private void right(String what, boolean holds) {
        due.is(what, holds ? 1 : 0, 1);
    }

    private void readMethods() {
        for (int i = 0; i < lines.length; i++) {
            Matcher m = HEADER.matcher(lines[i]);
            if (!m.matches() || WORDS.contains(m.group(2))) {
                continue;
            }
            int last = i;
            while (last < lines.length - 1 && !lines[last].equals(m.group(1) + "}")) {
                last++;
            }
            methods++;
            right(m.group(2) + " has at most " + MOST_LINES + " lines", last - i + 1 <= MOST_LINES);
            Set<String> called = calls.computeIfAbsent(m.group(2), name -> new LinkedHashSet<>());
            for (int k = i + 1; k < last; k++) {
                Matcher c = CALL.matcher(lines[k]);
                while (c.find()) {
                    called.add(c.group(1));
                }
            }
            called.removeAll(WORDS);
        }
    }

    private void everyMethodIsRead() {
        int there = 0;
        for (Method m : WhoseHourItIs.class.getDeclaredMethods()) {
            there += m.isSynthetic() ? 0 : 1;
        }
        for (Class<?> inside : WhoseHourItIs.class.getDeclaredClasses()) {
            for (Method m : inside.getDeclaredMethods()) {
                there += m.isSynthetic() ? 0 : 1;
            }
        }
        due.is("methods that were read", methods, there);
    }

    private void depth() {
        for (String name : calls.keySet()) {
            int deep = depthOf(name, List.of());
            right(name + " is " + deep + " deep, at most " + DEEPEST, deep <= DEEPEST);
        }
    }

    /** How many calls stand open at once from a method on, the library's counted. */
    private int depthOf(String name, List<String> open) {
        if (open.contains(name)) {
            boolean itself = open.get(open.size() - 1).equals(name);
            right(name + " may call itself", itself && RECURSIVE.contains(name));
            return 0;
        }
        Integer known = depths.get(name);
        if (known != null) {
            return known;
        }
        List<String> more = new ArrayList<>(open);
        more.add(name);
        int below = 0;
        for (String called : calls.getOrDefault(name, Set.of())) {
            below = Math.max(below, depthOf(called, more));
        }
        depths.put(name, below + 1);
        return below + 1;
    }

    /** No call makes an object: rows are made with the object that they are of. */
    private void objects() {
        for (String line : lines) {
            boolean makes = line.matches(".*\\bnew\\b.*") || line.matches(".*\\b(clone|copyOf|copyOfRange|valueOf)\\(.*");
            right("makes an object in a call: " + line.trim(), !makes || ROW_OF_A_FIELD.matcher(line).matches());
        }
    }
}

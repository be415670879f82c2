import java.lang.reflect.Constructor;
import java.lang.reflect.Field;
import java.lang.reflect.Method;
import java.lang.reflect.Modifier;
import java.nio.file.Files;
import java.nio.file.Path;
import java.util.Arrays;
import java.util.HashSet;
import java.util.List;
import java.util.Set;
import java.util.TreeSet;
import java.util.regex.Matcher;
import java.util.regex.Pattern;

/** The document's face, and those rules of LANGUAGE.md that a plain look can tell. */
public final class Language {
    private static final List<String> FACE = List.of(
        "feed(int,long)", "town()", "holder(int,int)", "hour(int,int)", "work(int,int)", "price(int,int)",
        "strike(int)", "bell(int,int)", "leave(int,int,int)", "one(int)", "cost(int)", "net(int)", "bars(int)",
        "all()", "begin(int)", "ask(int)", "rest()", "stop(int)", "stopAll()", "power(int,int,int)", "wed(int)",
        "marry(int,int)", "wedTo(int)", "heirs(int,int)", "give()", "together(int,int)", "season(int,int)",
        "year()", "years(int,int)", "row(int)", "judge(int)", "image()", "on()", "count(int)");
    private static final List<String> BANNED = List.of(
        "\\bthrow\\b", "\\btry\\b", "\\bcatch\\b", "\\bsynchronized\\b", "\\bassert\\b", "->", "::", "\\bimport\\b",
        "\\bpackage\\b", "\\bprotected\\b", "\\bSystem\\.(?!arraycopy\\b)", "Exact\\b", "\\bRandom\\b", "\\bThread\\b",
        "\\bhashCode\\b", "\\btoString\\b", "\\bString\\.format\\b", "[^\\x00-\\x7f]");

    private final Due due = new Due();

    public static void main(String[] args) throws Exception {
        Language l = new Language();
        l.face();
        l.insides();
        l.source(Files.readString(Path.of("src/main/java/WhoseHourItIs.java")));
        l.due.end();
    }

    private void right(String what, boolean holds) {
        due.is(what, holds ? 1 : 0, 1);
    }

    private void face() {
        Class<?> c = WhoseHourItIs.class;
        right("public and final", Modifier.isPublic(c.getModifiers()) && Modifier.isFinal(c.getModifiers()));
        Set<String> found = new TreeSet<>();
        Set<String> names = new HashSet<>();
        for (Method m : c.getDeclaredMethods()) {
            if (!Modifier.isPrivate(m.getModifiers())) {
                right(m + " is public, answers an int", Modifier.isPublic(m.getModifiers()) && m.getReturnType() == int.class);
                found.add(signature(m));
                names.add(m.getName());
            }
        }
        right("the methods are the document's: " + found, found.equals(new TreeSet<>(FACE)));
        for (Constructor<?> k : c.getDeclaredConstructors()) {
            right("one constructor", Modifier.isPublic(k.getModifiers()) && k.getParameterCount() == 0);
        }
        for (Class<?> inside : c.getDeclaredClasses()) {
            right(inside + " is static", Modifier.isStatic(inside.getModifiers()));
            for (Method m : inside.getDeclaredMethods()) {
                right(m + " has no public method's name", !names.contains(m.getName()));
            }
        }
        for (Method m : c.getDeclaredMethods()) {
            if (Modifier.isPrivate(m.getModifiers())) {
                right(m + " has no public method's name", !names.contains(m.getName()));
            }
        }
    }

    private static String signature(Method m) {
        StringBuilder s = new StringBuilder(m.getName()).append('(');
        for (Class<?> p : m.getParameterTypes()) {
            s.append(s.charAt(s.length() - 1) == '(' ? "" : ",").append(p.getName());
        }
        return s.append(')').toString();
    }

    private void insides() {
        Class<?>[] classes = WhoseHourItIs.class.getDeclaredClasses();
        right("at most twelve classes", classes.length + 1 <= 12);
        Class<?>[] all = Arrays.copyOf(classes, classes.length + 1);
        all[classes.length] = WhoseHourItIs.class;
        for (Class<?> c : all) {
            int fields = 0;
            for (Field f : c.getDeclaredFields()) {
                boolean constant = Modifier.isStatic(f.getModifiers());
                fields += constant ? 0 : 1;
                right(f + " is final if static", !constant || Modifier.isFinal(f.getModifiers()));
                right(f + " is private", c != WhoseHourItIs.class || Modifier.isPrivate(f.getModifiers()));
            }
            right(c + " has at most twenty fields", fields <= 20);
            for (Method m : c.getDeclaredMethods()) {
                right(m + " takes at most seven", m.getParameterCount() <= 7);
            }
        }
    }

    private void source(String text) {
        String code = text.replaceAll("(?s)/\\*.*?\\*/", "").replaceAll("//[^\n]*", "");
        for (String banned : BANNED) {
            Matcher m = Pattern.compile(banned).matcher(code);
            right("without " + banned, !m.find());
        }
    }
}

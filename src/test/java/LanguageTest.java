import java.io.IOException;
import java.lang.reflect.Constructor;
import java.lang.reflect.Field;
import java.lang.reflect.Method;
import java.lang.reflect.Modifier;
import java.nio.file.Files;
import java.nio.file.Path;
import java.util.Map;
import java.util.TreeMap;
import java.util.TreeSet;
import java.util.regex.Matcher;
import java.util.regex.Pattern;

/** The face of the document, and what of LANGUAGE.md can be seen from outside or from single words. */
public final class LanguageTest {
    private static final String[] FACE = {
        "int grass(int, int)", "int ledge(int, int)", "int set(int, int)", "int goat(int, int)", "int of(int, int)",
        "int change(int, int, int)", "int birth(int)", "int ask(int)", "int go(int)", "int now(int)", "int who(int)",
        "int ahead(int, int, int)", "int learns(int, int)", "int lost(int)", "int meet(int, int)", "int reach(int, int)",
        "int put(int, int)", "int kindFor(int, int)", "int growsFor(int, int)", "int cover(int)", "int price(int)",
        "int censor(int, int)", "int kinds(int, int)", "int fits(int, int)", "int slips(int)", "long odds(int, int)",
        "int seed(int)", "int feed(int, int)", "int wipe()", "int text()", "int hold(int, int)", "int as(int, int)",
        "int sheet(int, int, int)", "int write(int, int, int)", "int copy(int, int, int, int, int)", "int load(int)",
        "int judge(int)", "int image()", "int undo()", "int tear()", "int count(int)", "int status(int)"};
    private static final String[] FORBIDDEN = {
        "throw", "throws", "try", "catch", "finally", "synchronized", "assert", "import", "package", "native", "volatile",
        "transient", "hashCode", "toString", "Object", "Class", "Thread", "Random", "nanoTime", "currentTimeMillis",
        "double", "float", "instanceof", "protected", "addExact", "multiplyExact", "toIntExact"};

    public static void main(String[] args) throws IOException {
        face();
        members();
        words();
        methodLengths();
        callDepths();
        Checks.end();
    }

    private static void face() {
        TreeSet<String> want = new TreeSet<>();
        for (String s : FACE) {
            want.add(s);
        }
        TreeSet<String> got = new TreeSet<>();
        for (Method m : GoatShelves.class.getDeclaredMethods()) {
            if (!Modifier.isPrivate(m.getModifiers()) && !m.isSynthetic()) {
                Checks.due(m + " is public", Modifier.isPublic(m.getModifiers()) && !Modifier.isStatic(m.getModifiers()));
                got.add(told(m));
            }
        }
        Checks.due("the face: " + got, got.equals(want));
        Checks.due("public and final", GoatShelves.class.getModifiers() == (Modifier.PUBLIC | Modifier.FINAL));
        Constructor<?>[] made = GoatShelves.class.getDeclaredConstructors();
        Checks.due("one public constructor", made.length == 1 && made[0].getParameterCount() == 0
            && Modifier.isPublic(made[0].getModifiers()));
    }

    private static String told(Method m) {
        StringBuilder s = new StringBuilder(m.getReturnType() + " " + m.getName() + "(");
        for (Class<?> t : m.getParameterTypes()) {
            s.append(s.charAt(s.length() - 1) == '(' ? "" : ", ").append(t);
        }
        return s.append(")").toString();
    }

    private static void members() {
        TreeSet<String> names = new TreeSet<>();
        for (String s : FACE) {
            names.add(s.substring(s.indexOf(' ') + 1, s.indexOf('(')));
        }
        hasFewFields(GoatShelves.class);
        for (Field f : GoatShelves.class.getDeclaredFields()) {
            Checks.due(f + " is private", Modifier.isPrivate(f.getModifiers()));
        }
        for (Method m : GoatShelves.class.getDeclaredMethods()) {
            Checks.due(m + " bears a name of its own", !Modifier.isPrivate(m.getModifiers()) || !names.contains(m.getName()));
        }
        Class<?>[] inside = GoatShelves.class.getDeclaredClasses();
        Checks.due("twelve classes at most", inside.length < 12);
        for (Class<?> c : inside) {
            Checks.due(c + " is static", Modifier.isStatic(c.getModifiers()) && !Modifier.isPublic(c.getModifiers()));
            hasFewFields(c);
            for (Method m : c.getDeclaredMethods()) {
                Checks.due(m + " bears a name of its own", !names.contains(m.getName()));
            }
        }
    }

    private static void hasFewFields(Class<?> c) {
        int fields = 0;
        for (Field f : c.getDeclaredFields()) {
            boolean isStatic = Modifier.isStatic(f.getModifiers());
            Checks.due(f + " is final or the object's own", !isStatic || Modifier.isFinal(f.getModifiers()));
            fields += isStatic ? 0 : 1;
        }
        Checks.due(c + " has few fields", fields <= 20);
    }

    private static String source() throws IOException {
        String s = Files.readString(Path.of("src/main/java/GoatShelves.java"));
        return s.replaceAll("(?s)/\\*.*?\\*/", "").replaceAll("//[^\n]*", "");
    }

    private static void words() throws IOException {
        String s = source();
        for (String word : FORBIDDEN) {
            Checks.due("no " + word, !Pattern.compile("\\b" + word + "\\b").matcher(s).find());
        }
        Checks.due("no lambda", !s.contains("->") && !s.contains("::"));
        Checks.due("no sign above 127", s.chars().allMatch(c -> c < 128));
        // All that is made is made with the object: no act needs room of its own.
        int made = s.split("\\bnew\\b", -1).length - 1;
        int inFields = s.split("(?m)^        final int\\[\\] \\w+ = new int\\[\\w+\\];$", -1).length - 1;
        int inConstructor = s.substring(s.indexOf("public GoatShelves()"), s.indexOf("public int grass")).split("\\bnew\\b", -1).length - 1;
        Checks.due("what is made is made in constructors", made, inFields + inConstructor);
    }

    private static void methodLengths() throws IOException {
        String[] lines = source().split("\n");
        Pattern begin = Pattern.compile("^( {4}| {8})(?! )[^;=]*\\) \\{$");
        for (int i = 0; i < lines.length; i++) {
            Matcher m = begin.matcher(lines[i]);
            if (m.matches()) {
                int end = i;
                while (end < lines.length - 1 && !lines[end].equals(m.group(1) + "}")) {
                    end++;
                }
                Checks.due("short: " + lines[i].trim(), end - i <= 60);
            }
        }
    }

    /** Bodies of all methods of the source, by their names. */
    private static Map<String, String> bodies() throws IOException {
        Map<String, String> bodies = new TreeMap<>();
        String[] lines = source().split("\n");
        Pattern begin = Pattern.compile("^( {4}| {8})(?! )[^;=]*?\\b(\\w+)\\([^;=]*\\) \\{$");
        for (int i = 0; i < lines.length; i++) {
            Matcher m = begin.matcher(lines[i]);
            if (m.matches()) {
                StringBuilder body = new StringBuilder();
                for (int k = i + 1; k < lines.length && !lines[k].equals(m.group(1) + "}"); k++) {
                    body.append(lines[k]).append('\n');
                }
                bodies.merge(m.group(2), body.toString(), String::concat);
            }
        }
        return bodies;
    }

    private static void callDepths() throws IOException {
        Map<String, String> bodies = bodies();
        for (String s : FACE) {
            String name = s.substring(s.indexOf(' ') + 1, s.indexOf('('));
            Checks.due("a body of " + name, bodies.containsKey(name));
            int deep = deep(name, bodies, 0);
            Checks.due(name + " calls eight deep at most: " + deep, deep <= 8);
        }
    }

    /** How many calls stand open at most when a method runs, itself too; by names, so a call of itself is never done. */
    private static int deep(String name, Map<String, String> bodies, int open) {
        int most = 0;
        Matcher calls = Pattern.compile("\\b(\\w+)\\(").matcher(bodies.get(name));
        while (open < 20 && calls.find()) {
            if (bodies.containsKey(calls.group(1))) {
                most = Math.max(most, deep(calls.group(1), bodies, open + 1));
            }
        }
        return 1 + most;
    }
}

import java.io.IOException;
import java.lang.reflect.Constructor;
import java.lang.reflect.Field;
import java.lang.reflect.Method;
import java.lang.reflect.Modifier;
import java.nio.file.Files;
import java.nio.file.Path;
import java.util.Arrays;
import java.util.Map;
import java.util.Set;
import java.util.TreeMap;
import java.util.TreeSet;
import java.util.regex.Matcher;
import java.util.regex.Pattern;

/** The face that the document tells, and those rules of LANGUAGE.md that can be seen from the text. */
public final class FaceTest {
    private static final String FACE = "back() bar(int,int) barAt(int,int) between(int,int) copy(int,int,int,int,int) "
            + "down(int,int) feed(int,int,int,int,int,int) film(int) image() lacking(int) line(int) load(int,int,int,int) "
            + "named() off(int,int) part(int) pin(int,int) put(int,int,int) ring(int) sheet(int,int,int) tells(int,int) "
            + "text() tied(int,int) told(int) with(int,int) without(int) worst(int)";
    private static final String[] BARRED = {"throw", "throws", "try", "catch", "synchronized", "assert", "import", "package",
        "protected", "Object", "volatile", "transient", "native", "var", "yield"};
    private static final int MOST_LINES = 60, MOST_PARAMETERS = 7, MOST_FIELDS = 20, MOST_CLASSES = 12, MOST_DEEP = 8;
    /** What the class uses of the library; each is in rule 4. */
    private static final Set<String> LIBRARY = Set.of("Math.min", "Math.max", "Integer.bitCount", "System.arraycopy");
    private static final Pattern HEAD = Pattern.compile("^( {4}| {8})(public|private|static|boolean|int|void)\\b[^=;]*\\) \\{$");

    private final Checks checks = new Checks();

    public static void main(String[] args) throws IOException {
        FaceTest test = new FaceTest();
        test.members();
        test.inside();
        test.source(Files.readString(Path.of("src/main/java/PebbleBars.java")));
        test.checks.close();
    }

    private void must(String what, boolean holds) {
        checks.due(what, holds ? 1 : 0, 1);
    }

    private static String signature(Method m) {
        return m.toString().replaceAll(".*PebbleBars\\.", "");
    }

    private void members() {
        Class<?> c = PebbleBars.class;
        must("public and final", Modifier.isPublic(c.getModifiers()) && Modifier.isFinal(c.getModifiers()));
        Set<String> open = new TreeSet<>();
        for (Method m : c.getDeclaredMethods()) {
            if (!Modifier.isPrivate(m.getModifiers())) {
                open.add(signature(m));
                must(m + " is public, of an object, answers an int", m.toString().startsWith("public int "));
            }
        }
        must("methods: " + open, open.equals(new TreeSet<>(Arrays.asList(FACE.split(" ")))));
        must("one constructor", c.getDeclaredConstructors().length == 1);
        for (Constructor<?> made : c.getDeclaredConstructors()) {
            must("a public constructor of nothing", made.toString().equals("public PebbleBars()"));
        }
        Set<String> constants = new TreeSet<>();
        for (Field f : c.getDeclaredFields()) {
            if (!Modifier.isPrivate(f.getModifiers())) {
                constants.add(f.toString());
            }
        }
        String start = "public static final int PebbleBars.";
        must("constants: " + constants, constants.equals(new TreeSet<>(
                Arrays.asList(start + "NONE", start + "BAD", start + "STATE", start + "FULL"))));
        checks.due("NONE", PebbleBars.NONE, -1);
        checks.due("BAD", PebbleBars.BAD, -2);
        checks.due("STATE", PebbleBars.STATE, -3);
        checks.due("FULL", PebbleBars.FULL, -4);
    }

    private void inside() {
        Class<?>[] classes = PebbleBars.class.getDeclaredClasses();
        must("classes", classes.length + 1 <= MOST_CLASSES);
        for (Class<?> c : classes) {
            must(c + " is static", Modifier.isStatic(c.getModifiers()));
            must(c + " is not open", !Modifier.isPublic(c.getModifiers()) && !Modifier.isProtected(c.getModifiers()));
        }
        must("no fields too many", fieldsAreFew(PebbleBars.class));
        for (Class<?> c : classes) {
            must(c + " has few fields", fieldsAreFew(c));
            for (Method m : c.getDeclaredMethods()) {
                must(m + " has few parameters", m.getParameterCount() <= MOST_PARAMETERS);
                must(m + " does not bear a public name", !(" " + FACE).contains(" " + m.getName() + "("));
            }
        }
        for (Method m : PebbleBars.class.getDeclaredMethods()) {
            boolean isFace = (" " + FACE).contains(" " + m.getName() + "(");
            must(m + " does not bear a public name", !Modifier.isPrivate(m.getModifiers()) || !isFace);
            must(m + " has few parameters", m.getParameterCount() <= MOST_PARAMETERS);
        }
    }

    private static boolean fieldsAreFew(Class<?> c) {
        int count = 0;
        for (Field f : c.getDeclaredFields()) {
            if (!Modifier.isStatic(f.getModifiers())) {
                count++;
            } else if (!Modifier.isFinal(f.getModifiers())) {
                return false;
            }
        }
        return count <= MOST_FIELDS;
    }

    private void source(String text) {
        String code = text.replaceAll("(?s)/\\*.*?\\*/", "").replaceAll("//[^\n]*", "");
        for (String word : BARRED) {
            must("no " + word, !Pattern.compile("\\b" + word + "\\b").matcher(code).find());
        }
        must("no lambda, no method reference", !code.contains("->") && !code.contains("::"));
        must("signs 1 to 127", text.chars().allMatch(sign -> sign > 0 && sign < 128));
        must("one public class", code.split("\\bclass\\b")[0].trim().equals("public final"));
        // Rows and objects are made with their owner alone: what a run of calls makes does not grow with the calls.
        Matcher made = Pattern.compile("\n[^\n]*\\bnew\\b[^\n]*").matcher(code);
        while (made.find()) {
            String line = made.group().trim();
            must("made with its owner: " + line, line.contains("final") || line.equals("sheets[i] = new Sheet();"));
        }
        Matcher used = Pattern.compile("\\b[A-Z][a-z]\\w*\\.\\w+").matcher(code);
        while (used.find()) {
            must("of the library: " + used.group(), LIBRARY.contains(used.group()));
        }
        methodsAreShort(text.split("\n"));
        callsAreNotDeep(code.split("\n"));
    }

    /** By the methods' names, which must be unlike for it: who calls whom, and how far down that goes. */
    private void callsAreNotDeep(String[] lines) {
        Map<String, String> bodies = new TreeMap<>();
        for (int i = 0; i < lines.length; i++) {
            Matcher m = HEAD.matcher(lines[i]);
            if (m.matches()) {
                StringBuilder body = new StringBuilder();
                for (int at = i + 1; at < lines.length && !lines[at].equals(m.group(1) + "}"); at++) {
                    body.append(lines[at]).append('\n');
                }
                String name = lines[i].replaceAll("\\(.*", "").replaceAll(".* ", "");
                must("one method alone is named " + name, bodies.put(name, body.toString()) == null);
            }
        }
        must("methods are found: " + bodies.size(), bodies.size() > 26);
        for (String name : bodies.keySet()) {
            int deep = depth(name, bodies, 1);
            must(name + " goes " + deep + " calls deep", deep <= MOST_DEEP);
        }
    }

    /** The class has no recursion, so a way down ends; one that did not is cut off where it is too deep already. */
    private static int depth(String name, Map<String, String> bodies, int level) {
        int deepest = level;
        Matcher call = Pattern.compile("\\b(\\w+)\\(").matcher(bodies.get(name));
        while (call.find() && level <= MOST_DEEP) {
            if (bodies.containsKey(call.group(1))) {
                deepest = Math.max(deepest, depth(call.group(1), bodies, level + 1));
            }
        }
        return deepest;
    }

    private void methodsAreShort(String[] lines) {
        int methods = 0;
        for (int i = 0; i < lines.length; i++) {
            Matcher m = HEAD.matcher(lines[i]);
            if (m.matches()) {
                methods++;
                int end = i;
                while (end < lines.length && !lines[end].equals(m.group(1) + "}")) {
                    end++;
                }
                must("short: " + lines[i].trim(), end - i + 1 <= MOST_LINES);
            }
        }
        must("methods are found: " + methods, methods >= 26);
    }
}

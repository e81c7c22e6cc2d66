import java.io.IOException;
import java.lang.reflect.Array;
import java.lang.reflect.Field;
import java.lang.reflect.Method;
import java.lang.reflect.Modifier;
import java.nio.file.Files;
import java.nio.file.Path;
import java.util.Collections;
import java.util.IdentityHashMap;
import java.util.List;
import java.util.Set;
import java.util.TreeSet;
import java.util.regex.Matcher;
import java.util.regex.Pattern;
import java.util.stream.Stream;

/** What README.md says is so: the calls that it shows, the objects that it counts, the tests that it lists. */
public final class ReadmeTest {
    private static final Pattern CALL = Pattern.compile("desk\\.(\\w+)\\((.*)\\); *// (-?\\d+)(:.*)?");
    private static final String MADE = "PebbleBars desk = new PebbleBars();";
    private static final int MOST_CALLS = 512;

    private final Checks checks = new Checks();
    private final Set<String> shown = new TreeSet<>();
    private PebbleBars desk = null;
    private int calls = 0;
    private int objects = 0;
    private int elements = 0;

    public static void main(String[] args) throws IOException, ReflectiveOperationException {
        ReadmeTest test = new ReadmeTest();
        String text = Files.readString(Path.of("README.md"));
        test.shownCalls(text.split("\n"));
        test.allMethodsAreShown();
        test.countedObjects(text);
        test.listedTests(text);
        test.checks.close();
    }

    private void must(String what, boolean holds) {
        checks.due(what, holds ? 1 : 0, 1);
    }

    private void shownCalls(String[] lines) throws ReflectiveOperationException {
        boolean isJava = false;
        for (String line : lines) {
            if (line.startsWith("```")) {
                isJava = line.equals("```java");
            } else if (isJava) {
                shownLine(line);
            }
        }
        must("calls are shown, so many as an object may have: " + calls, calls > 0 && calls <= MOST_CALLS);
    }

    private void shownLine(String line) throws ReflectiveOperationException {
        if (line.equals(MADE)) {
            desk = new PebbleBars();
            return;
        }
        Matcher call = CALL.matcher(line);
        boolean isCall = call.matches() && desk != null;
        must("README.md shows a call with its answer: " + line, isCall);
        if (isCall) {
            calls++;
            shown.add(call.group(1));
            checks.due("README.md: " + line, asked(call.group(1), call.group(2)), Integer.parseInt(call.group(3)));
        }
    }

    private int asked(String name, String arguments) throws ReflectiveOperationException {
        String[] words = arguments.isEmpty() ? new String[0] : arguments.split(", ");
        Class<?>[] types = new Class<?>[words.length];
        Object[] values = new Object[words.length];
        for (int i = 0; i < words.length; i++) {
            types[i] = int.class;
            values[i] = words[i].matches("'.'") ? words[i].charAt(1) : Integer.parseInt(words[i]);
        }
        return (int) PebbleBars.class.getMethod(name, types).invoke(desk, values);
    }

    private void allMethodsAreShown() {
        Set<String> face = new TreeSet<>();
        for (Method m : PebbleBars.class.getDeclaredMethods()) {
            if (Modifier.isPublic(m.getModifiers())) {
                face.add(m.getName());
            }
        }
        must("every public method is shown: " + shown + " of " + face, shown.equals(face));
    }

    private void countedObjects(String text) throws ReflectiveOperationException {
        count(new PebbleBars(), Collections.newSetFromMap(new IdentityHashMap<>()));
        String counted = objects + " objects with " + elements + " fields and elements";
        must("README.md counts " + counted, text.contains("(" + counted + ")"));
        // The desk has done all that is shown by now: it has made nothing more.
        int atFirst = objects;
        objects = 0;
        count(desk, Collections.newSetFromMap(new IdentityHashMap<>()));
        checks.due("objects of the used desk", objects, atFirst);
    }

    private void count(Object thing, Set<Object> seen) throws ReflectiveOperationException {
        if (thing == null || !seen.add(thing)) {
            return;
        }
        objects++;
        if (thing.getClass().isArray()) {
            elements += Array.getLength(thing);
            for (int i = 0; thing instanceof Object[] && i < Array.getLength(thing); i++) {
                count(Array.get(thing, i), seen);
            }
            return;
        }
        for (Field f : thing.getClass().getDeclaredFields()) {
            if (!Modifier.isStatic(f.getModifiers())) {
                elements++;
                f.setAccessible(true);
                count(f.getType().isPrimitive() ? null : f.get(thing), seen);
            }
        }
    }

    /** A test that is not named .. Test.java would never be run by .ci/run. */
    private void listedTests(String text) throws IOException {
        try (Stream<Path> files = Files.list(Path.of("src/test/java"))) {
            List<Path> all = files.toList();
            for (Path file : all) {
                String name = file.getFileName().toString();
                boolean isTest = Files.readString(file).contains("static void main(");
                must(name + " has a main method just if .ci/run runs it", isTest == name.endsWith("Test.java"));
                must(name + " is listed in README.md", !isTest || text.contains("`" + name.replace(".java", "") + "`"));
            }
            must("tests are there", all.size() > 1);
        }
    }
}

import java.io.IOException;
import java.io.UncheckedIOException;
import java.lang.reflect.Method;
import java.lang.reflect.Modifier;
import java.nio.file.Files;
import java.nio.file.Path;
import java.util.ArrayList;
import java.util.List;
import java.util.Set;
import java.util.TreeSet;
import java.util.regex.Matcher;
import java.util.regex.Pattern;
import java.util.stream.Stream;

/** README.md: its example is run as it stands, and it names each call and each test. */
public final class ReadmeTests extends Help {
    private static final Pattern LETTERS = Pattern.compile("for \\(char c : \"([^\"]*)\"\\.toCharArray\\(\\)\\) \\{");
    private static final Pattern CALL = Pattern.compile("x\\.(\\w+)\\(([^()]*)\\);\\s*// (-?\\w+)(: .*)?");
    private static final List<String> FRAME = List.of("RestGains x = new RestGains();", "x.letter(c);", "}", "");

    public static void main(String[] args) throws Exception {
        String page = Files.readString(Path.of("README.md"));
        Set<String> called = example(page);
        for (Method method : RestGains.class.getDeclaredMethods()) {
            if (Modifier.isPublic(method.getModifiers())) {
                due("README.md tells of " + method.getName() + "()", page.contains("`" + signature(method.getName()) + "`") ? 1 : 0, 1);
                due("README.md shows " + method.getName() + "()", called.contains(method.getName()) ? 1 : 0, 1);
            }
        }
        for (String name : List.of("NONE", "UNKNOWN", "OUTSIDE", "STATE", "FULL")) {
            due("README.md tells of " + name, page.contains("`" + name + "`") ? 1 : 0, 1);
        }
        tests(page);
        end("README.md is as the class and the tests are");
    }

    /** A call as the document's face has it, without the types. */
    private static String signature(String name) {
        Matcher face = Pattern.compile("public long " + name + "\\(([^)]*)\\);").matcher(read(Path.of("../shared/DOC.md")));
        return face.find() ? name + "(" + face.group(1).replaceAll("(int|boolean) ", "") + ")" : "no " + name + "() in the document";
    }

    /** Runs the page's one piece of Java line by line: the names of the calls in it. */
    private static Set<String> example(String page) throws ReflectiveOperationException {
        int from = page.indexOf("```java\n");
        int to = page.indexOf("```", from + 3);
        due("one example in README.md", from >= 0 && to > from && page.indexOf("```java\n", to) < 0 ? 1 : 0, 1);
        Set<String> called = new TreeSet<>();
        RestGains x = new RestGains();
        int answers = 0;
        for (String line : page.substring(Math.max(from + 8, 0), Math.max(to, from + 8)).split("\n")) {
            Matcher letters = LETTERS.matcher(line.strip());
            Matcher call = CALL.matcher(line.strip());
            if (letters.matches()) {
                write(x, letters.group(1));
            } else if (call.matches()) {
                due("README.md: " + line.strip(), answer(x, call.group(1), call.group(2)), number(call.group(3)));
                called.add(call.group(1));
                answers++;
            } else {
                due("README.md is read by this test at " + line, FRAME.contains(line.strip()) ? 1 : 0, 1);
            }
        }
        due("answers in README.md", answers > 20 ? 1 : 0, 1);
        return called;
    }

    private static long answer(RestGains x, String name, String told) throws ReflectiveOperationException {
        List<Class<?>> types = new ArrayList<>();
        List<Object> values = new ArrayList<>();
        for (String value : told.isEmpty() ? new String[0] : told.split(", ")) {
            boolean truth = value.equals("true") || value.equals("false");
            types.add(truth ? boolean.class : int.class);
            values.add(truth ? (Object) Boolean.valueOf(value) : (Object) whole(value));
        }
        return (long) RestGains.class.getMethod(name, types.toArray(new Class<?>[0])).invoke(x, values.toArray());
    }

    private static int whole(String value) {
        return value.startsWith("'") ? value.charAt(1) : Integer.parseInt(value);
    }

    private static long number(String told) throws ReflectiveOperationException {
        return told.matches("[A-Z]+") ? RestGains.class.getField(told).getLong(null) : Long.parseLong(told);
    }

    /** The tests that README.md names are those of the project. */
    private static void tests(String page) {
        Set<String> named = new TreeSet<>();
        Matcher name = Pattern.compile("`(src/test/java/\\w+\\.java)`").matcher(page);
        while (name.find()) {
            named.add(name.group(1));
        }
        Set<String> there = new TreeSet<>();
        try (Stream<Path> files = Files.list(Path.of("src/test/java"))) {
            files.forEach(file -> there.add(file.toString()));
        } catch (IOException failed) {
            throw new UncheckedIOException(failed);
        }
        due("README.md names the tests " + there + ", not " + named, named.equals(there) ? 1 : 0, 1);
        due(".ci/run can be run", Files.isExecutable(Path.of(".ci/run")) && page.contains("    .ci/run\n") ? 1 : 0, 1);
    }

    private static String read(Path file) {
        try {
            return Files.readString(file);
        } catch (IOException failed) {
            throw new UncheckedIOException(failed);
        }
    }
}

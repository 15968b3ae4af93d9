import java.io.IOException;
import java.lang.reflect.InvocationTargetException;
import java.lang.reflect.Method;
import java.lang.reflect.Modifier;
import java.nio.charset.StandardCharsets;
import java.nio.file.Files;
import java.nio.file.Path;
import java.util.ArrayList;
import java.util.List;
import java.util.regex.Matcher;
import java.util.regex.Pattern;

/** README.md tells how the class is used: its example is called, its tables are compared with the class. */
public final class ReadmeHolds {
    private static final String[] ERRORS = {"BEYOND", "NONE", "STATE", "FULL", "KIND"};
    private static final int LOW = -1000000000;
    private static int wrong = 0;

    public static void main(String[] args) throws IOException, ReflectiveOperationException {
        String readme = Files.readString(Path.of("README.md"), StandardCharsets.UTF_8);
        example(readme);
        face(part(readme, "### What is called on it"));
        errors(part(readme, "### What an answer below -1000000000 means"));
        tests(part(readme, "## How to run its tests"));
        System.out.println(wrong == 0 ? "README.md holds" : wrong + " things in README.md don't hold");
        if (wrong != 0) {
            System.exit(1);
        }
    }

    private static void say(String what) {
        wrong++;
        System.out.println("README.md: " + what);
    }

    /** What stands below a heading, up to the next one. */
    private static String part(String readme, String heading) {
        int from = readme.indexOf("\n" + heading + "\n");
        if (from < 0) {
            say("there is no " + heading);
            return "";
        }
        int to = readme.indexOf("\n#", from + 1);
        return readme.substring(from, to < 0 ? readme.length() : to);
    }

    private static void example(String readme) throws ReflectiveOperationException {
        Matcher block = Pattern.compile("(?s)```java\n(.*?)```").matcher(readme);
        if (!block.find()) {
            say("there is no example");
            return;
        }
        Matcher call = Pattern.compile("x\\.(\\w+)\\(([^)]*)\\); +// (-?\\d+): \\S.*").matcher("");
        OneOfTwo x = null;
        int called = 0;
        for (String line : block.group(1).split("\n")) {
            if (line.equals("OneOfTwo x = new OneOfTwo();")) {
                x = new OneOfTwo();
            } else if (x != null && call.reset(line).matches()) {
                called++;
                int got = answer(x, call.group(1), call.group(2));
                if (got != Integer.parseInt(call.group(3))) {
                    say(line + " - it answered " + got);
                }
            } else if (!line.isEmpty()) {
                say("what is this line of the example: " + line);
            }
        }
        if (called < 20) {
            say("the example has " + called + " calls alone");
        }
    }

    private static int answer(OneOfTwo x, String name, String told) throws ReflectiveOperationException {
        List<Object> values = new ArrayList<>();
        List<Class<?>> types = new ArrayList<>();
        for (String one : told.isEmpty() ? new String[0] : told.split(", ")) {
            boolean isLong = one.endsWith("L");
            if (isLong) {
                values.add(Long.decode(one.substring(0, one.length() - 1)));
            } else {
                values.add(one.startsWith("0b") ? Integer.parseInt(one.substring(2), 2) : Integer.decode(one));
            }
            types.add(isLong ? long.class : int.class);
        }
        try {
            Method method = OneOfTwo.class.getMethod(name, types.toArray(new Class<?>[0]));
            return (Integer) method.invoke(x, values.toArray());
        } catch (InvocationTargetException e) {
            say(name + "(" + told + ") threw " + e.getCause());
            return 0;
        }
    }

    /** Every call of the face, and none but these, stands in the table of calls. */
    private static void face(String table) {
        List<String> named = new ArrayList<>();
        Matcher names = Pattern.compile("`(\\w+)`").matcher(table);
        while (names.find()) {
            named.add(names.group(1));
        }
        List<String> lacking = new ArrayList<>();
        for (Method method : OneOfTwo.class.getDeclaredMethods()) {
            if (Modifier.isPublic(method.getModifiers()) && !named.remove(method.getName())) {
                lacking.add(method.getName());
            }
        }
        if (!lacking.isEmpty() || !named.isEmpty()) {
            say("calls that lack: " + lacking + ", that are too many: " + named);
        }
    }

    private static void errors(String table) {
        for (int k = 1; k <= ERRORS.length; k++) {
            if (!table.contains("\n| " + (LOW - k) + " | " + k + " | " + ERRORS[k - 1] + " | ")) {
                say("there is no row of " + ERRORS[k - 1]);
            }
        }
    }

    private static void tests(String text) throws IOException {
        if (!text.contains("\nbash .ci/run\n")) {
            say("it isn't told how to run the tests");
        }
        try (var files = Files.list(Path.of("tests"))) {
            for (Path file : (Iterable<Path>) files::iterator) {
                if (file.toString().endsWith(".java") && !text.contains("`tests/" + file.getFileName() + "`")) {
                    say(file + " isn't told of");
                }
            }
        }
    }
}

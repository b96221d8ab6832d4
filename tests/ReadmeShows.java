import java.io.ByteArrayOutputStream;
import java.io.IOException;
import java.io.PrintStream;
import java.lang.reflect.InvocationTargetException;
import java.lang.reflect.Method;
import java.lang.reflect.Modifier;
import java.net.URL;
import java.net.URLClassLoader;
import java.nio.charset.StandardCharsets;
import java.nio.file.Files;
import java.nio.file.Path;
import java.util.ArrayList;
import java.util.HashSet;
import java.util.List;
import java.util.Set;
import java.util.regex.Matcher;
import java.util.regex.Pattern;
import java.util.stream.Stream;
import javax.tools.ToolProvider;

/**
 * What README.md shows is so: each call has the answer that stands beside it, the first program
 * prints what it says, each method of the face is shown and each test is named. It is run from the
 * root of the project.
 */
public final class ReadmeShows extends Sentences {
    private static final Path README = Path.of("README.md");
    private static final Path TESTS = Path.of("tests");
    private static final Pattern BLOCK = Pattern.compile("(?s)```(java|text)\n(.*?)```");
    private static final String MADE = "Pairpictures x = new Pairpictures();";

    // "x.put(0, 5, 50);   // -1: words"; the words may be left out.
    private static final Pattern SHOWN = Pattern.compile(
            "x\\.(\\w+)\\(([^()]*)\\); +// (\"[^\"]*\"|-?\\d+|true|false|throws \\w+)(: .+)?");

    private static final Set<String> METHODS_SHOWN = new HashSet<>();

    private static Object argument(String text, Class<?> type) {
        if (type == boolean.class) {
            return Boolean.valueOf(text);
        }
        return Integer.valueOf(text);
    }

    private static Method method(String name) {
        for (Method method : Pairpictures.class.getMethods()) {
            if (method.getName().equals(name)
                    && method.getDeclaringClass() == Pairpictures.class) {
                return method;
            }
        }
        throw new IllegalStateException("README.md shows a method that is not there: " + name);
    }

    private static String answer(Pairpictures x, String name, String arguments)
            throws ReflectiveOperationException {
        Method method = method(name);
        String[] texts = arguments.isEmpty() ? new String[0] : arguments.split(", ");
        Class<?>[] types = method.getParameterTypes();
        if (texts.length != types.length) {
            return "not to be called with (" + arguments + ")";
        }
        Object[] given = new Object[texts.length];
        for (int place = 0; place < texts.length; place++) {
            given[place] = argument(texts[place], types[place]);
        }
        try {
            Object told = method.invoke(x, given);
            return told instanceof String ? "\"" + told + "\"" : String.valueOf(told);
        } catch (InvocationTargetException thrown) {
            return "throws " + thrown.getCause().getClass().getSimpleName();
        }
    }

    private static void calls(String block) throws ReflectiveOperationException {
        String[] lines = block.split("\n");
        due(MADE, "the line ahead of all calls", () -> lines[0]);
        Pairpictures x = new Pairpictures();
        for (int line = 1; line < lines.length; line++) {
            Matcher shown = SHOWN.matcher(lines[line]);
            if (!shown.matches()) {
                fault("a line that shows no call with its answer: " + lines[line]);
                continue;
            }
            METHODS_SHOWN.add(shown.group(1));
            String got = answer(x, shown.group(1), shown.group(2));
            due(shown.group(3), lines[line].substring(0, lines[line].indexOf(';')), () -> got);
        }
    }

    private static String printed(String program) throws IOException, ReflectiveOperationException {
        Path work = Files.createTempDirectory("readme");
        Path file = work.resolve("First.java");
        Files.writeString(file, program);
        int rc = ToolProvider.getSystemJavaCompiler().run(null, null, null, "-d", work.toString(),
                "src/main/java/Pairpictures.java", file.toString());
        if (rc != 0) {
            return "does not compile";
        }
        PrintStream kept = System.out;
        ByteArrayOutputStream out = new ByteArrayOutputStream();
        try (URLClassLoader loader = new URLClassLoader(new URL[] {work.toUri().toURL()}, null)) {
            System.setOut(new PrintStream(out, true, StandardCharsets.US_ASCII));
            loader.loadClass("First").getMethod("main", String[].class)
                    .invoke(null, (Object) new String[0]);
        } finally {
            System.setOut(kept);
        }
        return out.toString(StandardCharsets.US_ASCII).replace("\r\n", "\n");
    }

    private static void blocks(String readme) throws IOException, ReflectiveOperationException {
        Matcher block = BLOCK.matcher(readme);
        List<String> programs = new ArrayList<>();
        List<String> prints = new ArrayList<>();
        int ofCalls = 0;
        while (block.find()) {
            String inside = block.group(2);
            if (block.group(1).equals("text")) {
                prints.add(inside);
            } else if (inside.contains("void main(")) {
                programs.add(inside);
            } else {
                ofCalls++;
                calls(inside);
            }
        }
        about("README.md, the first program");
        due(1, "how many programs there are", () -> programs.size());
        due(1, "how many prints there are", () -> prints.size());
        if (programs.size() == 1 && prints.size() == 1) {
            due(prints.get(0), "First", () -> printed(programs.get(0)));
        }
        if (ofCalls == 0) {
            fault("there are no calls");
        }
    }

    private static void eachMethod() {
        for (Method method : Pairpictures.class.getDeclaredMethods()) {
            if (Modifier.isPublic(method.getModifiers())
                    && !METHODS_SHOWN.contains(method.getName())) {
                fault("a method that is not shown: " + method.getName());
            }
        }
    }

    private static Set<String> testsThatAre() throws IOException {
        Set<String> names = new HashSet<>();
        try (Stream<Path> files = Files.list(TESTS)) {
            files.map(file -> file.getFileName().toString())
                    .filter(name -> name.endsWith(".java"))
                    .forEach(name -> names.add(name.replace(".java", "")));
        }
        return names;
    }

    private static void eachTest(String readme) throws IOException {
        Set<String> there = testsThatAre();
        Set<String> named = new HashSet<>();
        Matcher row = Pattern.compile("(?m)^\\| `(\\w+)` \\|").matcher(readme);
        while (row.find()) {
            named.add(row.group(1));
        }
        for (String name : there) {
            if (!named.contains(name)) {
                fault("a test that is not named: " + name);
            }
        }
        for (String name : named) {
            if (!there.contains(name)) {
                fault("a test that is not there: " + name);
            }
        }
    }

    public static void main(String[] args) throws IOException, ReflectiveOperationException {
        String readme = Files.readString(README, StandardCharsets.UTF_8);
        about("README.md, the calls");
        blocks(readme);
        about("README.md, the methods");
        eachMethod();
        about("README.md, the tests");
        eachTest(readme);
        end("what README.md shows");
    }
}

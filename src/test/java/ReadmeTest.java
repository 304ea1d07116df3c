import java.io.ByteArrayOutputStream;
import java.io.IOException;
import java.io.PrintStream;
import java.lang.reflect.Method;
import java.lang.reflect.Modifier;
import java.net.URL;
import java.net.URLClassLoader;
import java.nio.charset.StandardCharsets;
import java.nio.file.Files;
import java.nio.file.Path;
import java.util.ArrayList;
import java.util.Comparator;
import java.util.List;
import java.util.Set;
import java.util.TreeSet;
import java.util.regex.Matcher;
import java.util.regex.Pattern;
import java.util.stream.Stream;
import javax.tools.ToolProvider;

/** The README: its example prints what it says, and its tables list the calls of the face. */
public final class ReadmeTest {
    private static final Check CHECK = new Check("ReadmeTest");

    public static void main(String[] args) throws Exception {
        String readme = Files.readString(Path.of("README.md"));
        example(readme);
        tables(readme);
        texts(readme);
        testsAreNamed(readme);
        CHECK.end();
    }

    private static void example(String readme) throws Exception {
        Matcher block = Pattern.compile("```java\n(.*?)```", Pattern.DOTALL).matcher(readme);
        CHECK.due("the README has an example", block.find(), true);
        String source = block.group(1);
        CHECK.due("it has no second one", block.find(), false);
        List<String> printed = run(source).lines().toList();
        List<String[]> told = told(source);
        CHECK.due("lines that the example prints", printed.size(), told.size());
        for (int i = 0; i < told.size() && i < printed.size(); i++) {
            CHECK.due("in the example, " + told.get(i)[0], printed.get(i).strip(), told.get(i)[1]);
        }
    }

    /** What the example prints and, from the comment behind it, what it says that this is. */
    private static List<String[]> told(String source) {
        List<String[]> told = new ArrayList<>();
        for (String line : source.split("\n")) {
            if (line.contains("println(")) {
                Matcher m = Pattern.compile(" *System\\.out\\.println\\((.*)\\); +// ([^:]*)(:.*)?").matcher(line);
                CHECK.due("says what it prints: " + line.strip(), m.matches(), true);
                told.add(m.matches() ? new String[] {m.group(1), m.group(2)} : new String[] {line, ""});
            }
        }
        return told;
    }

    private static String run(String source) throws Exception {
        Path folder = Files.createTempDirectory("readme");
        PrintStream before = System.out;
        ByteArrayOutputStream bytes = new ByteArrayOutputStream();
        try (URLClassLoader loader = new URLClassLoader(new URL[] {folder.toUri().toURL()})) {
            Path file = Files.writeString(folder.resolve("Example.java"), source);
            int refused = ToolProvider.getSystemJavaCompiler().run(null, null, null, "-proc:none", "-cp",
                    System.getProperty("java.class.path"), "-d", folder.toString(), file.toString());
            CHECK.due("the example compiles", refused, 0);
            if (refused == 0) {
                Method main = loader.loadClass("Example").getMethod("main", String[].class);
                System.setOut(new PrintStream(bytes, true, StandardCharsets.UTF_8));
                main.invoke(null, (Object) new String[0]);
            }
        } finally {
            System.setOut(before);
            remove(folder);
        }
        return bytes.toString(StandardCharsets.UTF_8);
    }

    private static void remove(Path folder) throws IOException {
        try (Stream<Path> all = Files.walk(folder)) {
            for (Path path : all.sorted(Comparator.reverseOrder()).toList()) {
                Files.delete(path);
            }
        }
    }

    /** Each call stands in the tables once, with as many parameters as it takes. */
    private static void tables(String readme) {
        Set<String> listed = new TreeSet<>();
        for (String line : readme.split("\n")) {
            if (line.startsWith("| `")) {
                Matcher call = Pattern.compile("`(\\w+)\\(([\\w, ]*)\\)`").matcher(line.split("\\|")[1]);
                while (call.find()) {
                    int parameters = call.group(2).isEmpty() ? 0 : call.group(2).split(",").length;
                    CHECK.due(call.group() + " is listed once", listed.add(call.group(1) + " " + parameters), true);
                }
            }
        }
        Set<String> face = new TreeSet<>();
        for (Method m : ForwardingTable.class.getDeclaredMethods()) {
            if (Modifier.isPublic(m.getModifiers())) {
                face.add(m.getName() + " " + m.getParameterCount());
            }
        }
        CHECK.due("calls in the tables", String.join("\n", listed), String.join("\n", face));
    }

    /** The text that the README shows is right. */
    private static void texts(String readme) {
        Matcher text = Pattern.compile("\n    (capacity .*;)\n").matcher(readme);
        CHECK.due("the README shows a text", text.find(), true);
        ForwardingTable x = Texts.loaded(text.group(1));
        CHECK.due("its routes", x.routes(), 2);
        CHECK.due("its addresses", x.logged(), 1);
    }

    private static void testsAreNamed(String readme) throws IOException {
        try (Stream<Path> files = Files.list(Path.of("src/test/java"))) {
            for (Path file : files.toList()) {
                String name = file.getFileName().toString().replace(".java", "");
                if (name.endsWith("Test")) {
                    CHECK.due("the README names " + name, readme.contains("`" + name + "`"), true);
                }
            }
        }
    }
}

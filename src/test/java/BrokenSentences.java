import java.io.ByteArrayOutputStream;
import java.io.IOException;
import java.io.InputStream;
import java.io.OutputStream;
import java.net.URI;
import java.nio.file.Files;
import java.nio.file.Path;
import java.util.ArrayList;
import java.util.HashMap;
import java.util.List;
import java.util.Map;
import java.util.Set;
import java.util.TreeSet;
import java.util.concurrent.Callable;
import java.util.concurrent.ExecutorService;
import java.util.concurrent.Executors;
import java.util.concurrent.Future;
import javax.tools.FileObject;
import javax.tools.ForwardingJavaFileManager;
import javax.tools.JavaCompiler;
import javax.tools.JavaFileManager;
import javax.tools.JavaFileObject;
import javax.tools.SimpleJavaFileObject;
import javax.tools.ToolProvider;

/**
 * Tries the tests of the sentences: it breaks the class in the ways that src/test/broken.txt lists,
 * one at a time, and tells where the tests of the sentence that is broken do not notice, and which
 * sentences have no way listed. Not a test of the class, so .ci/run leaves it out; a minute.
 */
final class BrokenSentences {
    private BrokenSentences() {
    }

    record Way(String sentence, String where, String goes, String comes) {
        String applied(String source) {
            int from = source.indexOf(where);
            int at = from < 0 ? -1 : source.indexOf(goes, from);
            return at < 0 ? null : source.substring(0, at) + comes + source.substring(at + goes.length());
        }
    }

    public static void main(String[] args) throws Exception {
        String source = Files.readString(Path.of("src/main/java/ForwardingTable.java"));
        List<Way> ways = read(Files.readAllLines(Path.of("src/test/broken.txt")));
        ExecutorService workers = Executors.newFixedThreadPool(Runtime.getRuntime().availableProcessors(), work -> {
            Thread thread = new Thread(work);
            thread.setDaemon(true);
            return thread;
        });
        List<Future<String>> results = new ArrayList<>();
        for (Way way : ways) {
            Callable<String> trial = () -> trial(way, source);
            results.add(workers.submit(trial));
        }
        int unnoticed = 0;
        for (Future<String> result : results) {
            if (!result.get().isEmpty()) {
                unnoticed++;
                System.out.println(result.get());
            }
        }
        Sentences s = new Sentences();
        SentencesTest.tests(s);
        Set<String> left = new TreeSet<>(s.tested());
        left.removeIf(sentence -> ways.stream().anyMatch(way -> sentence.startsWith(way.sentence())));
        left.forEach(sentence -> System.out.println("no way to break it is listed: " + sentence));
        System.out.println(ways.size() + " ways to break " + (s.tested().size() - left.size()) + " sentences, "
                + unnoticed + " not noticed; " + left.size() + " sentences without one");
        System.exit(unnoticed + left.size() == 0 ? 0 : 1);
    }

    private static List<Way> read(List<String> lines) {
        List<Way> ways = new ArrayList<>();
        String[] parts = new String[3];
        for (String line : lines) {
            if (line.startsWith("= ")) {
                parts[0] = line.substring(2);
            } else if (line.startsWith("in ")) {
                parts[1] = line.substring(3);
            } else if (line.startsWith("- ")) {
                parts[2] = line.substring(2);
            } else if (line.startsWith("+")) {
                ways.add(new Way(parts[0], parts[1], parts[2], line.substring(1).strip()));
            }
        }
        return ways;
    }

    /** Nothing if the tests of the sentence notice, otherwise what happened instead. */
    private static String trial(Way way, String source) {
        String broken = way.applied(source);
        if (broken == null) {
            return told(way, "does not fit the source");
        }
        Map<String, byte[]> classes = compile(broken);
        if (classes == null) {
            return told(way, "does not compile");
        }
        Set<String> noticed = new TreeSet<>();
        String end = run(classes, noticed);
        if (noticed.stream().anyMatch(sentence -> sentence.startsWith(way.sentence()))) {
            return "";
        }
        return told(way, noticed.isEmpty() ? "is not noticed" + end : "is noticed by others alone" + end + ": "
                + String.join("; ", noticed.stream().map(n -> n.substring(0, Math.min(60, n.length()))).limit(5).toList()));
    }

    private static String told(Way way, String what) {
        return way.sentence() + "\n  in " + way.where() + "\n  - " + way.goes() + "\n  + " + way.comes() + "\n  " + what;
    }

    /** Runs the tests with these classes; what it throws itself is told. */
    private static String run(Map<String, byte[]> classes, Set<String> noticed) {
        try {
            ClassLoader loader = new Loader(classes);
            Class<?> type = loader.loadClass("Sentences");
            var constructor = type.getDeclaredConstructor();
            constructor.setAccessible(true);
            Object s = constructor.newInstance();
            var tests = loader.loadClass("SentencesTest").getDeclaredMethod("tests", type);
            tests.setAccessible(true);
            tests.invoke(null, s);
            var broken = type.getDeclaredMethod("broken");
            broken.setAccessible(true);
            for (Object sentence : (Set<?>) broken.invoke(s)) {
                noticed.add((String) sentence);
            }
            return "";
        } catch (ReflectiveOperationException e) {
            return " (" + e + ")";
        }
    }

    private static Map<String, byte[]> compile(String source) {
        Map<String, ByteArrayOutputStream> outputs = new HashMap<>();
        JavaCompiler compiler = ToolProvider.getSystemJavaCompiler();
        JavaFileObject file = new SimpleJavaFileObject(URI.create("string:///ForwardingTable.java"),
                JavaFileObject.Kind.SOURCE) {
            @Override
            public CharSequence getCharContent(boolean ignoreEncodingErrors) {
                return source;
            }
        };
        JavaFileManager manager = new ForwardingJavaFileManager<>(compiler.getStandardFileManager(d -> { }, null, null)) {
            @Override
            public JavaFileObject getJavaFileForOutput(Location location, String name, JavaFileObject.Kind kind,
                    FileObject sibling) {
                return new SimpleJavaFileObject(URI.create("memory:///" + name.replace('$', '_') + ".class"), kind) {
                    @Override
                    public OutputStream openOutputStream() {
                        ByteArrayOutputStream bytes = new ByteArrayOutputStream();
                        outputs.put(name, bytes);
                        return bytes;
                    }
                };
            }
        };
        boolean right = compiler.getTask(null, manager, d -> { }, List.of("-proc:none"), null, List.of(file)).call();
        if (!right) {
            return null;
        }
        Map<String, byte[]> classes = new HashMap<>();
        outputs.forEach((name, bytes) -> classes.put(name, bytes.toByteArray()));
        return classes;
    }

    /** Loads the broken class, and the tests once more, so that they use it. */
    private static final class Loader extends ClassLoader {
        private final Map<String, byte[]> classes;

        Loader(Map<String, byte[]> classes) {
            super(ClassLoader.getPlatformClassLoader());
            this.classes = classes;
        }

        @Override
        protected Class<?> findClass(String name) throws ClassNotFoundException {
            byte[] bytes = classes.get(name);
            if (bytes == null) {
                try (InputStream in = BrokenSentences.class.getResourceAsStream(name.replace('.', '/') + ".class")) {
                    if (in == null) {
                        throw new ClassNotFoundException(name);
                    }
                    bytes = in.readAllBytes();
                } catch (IOException e) {
                    throw new ClassNotFoundException(name, e);
                }
            }
            return defineClass(name, bytes, 0, bytes.length);
        }
    }
}

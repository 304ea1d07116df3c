import java.lang.reflect.Constructor;
import java.lang.reflect.Field;
import java.lang.reflect.Method;
import java.lang.reflect.Modifier;
import java.nio.file.Files;
import java.nio.file.Path;
import java.util.Arrays;
import java.util.List;
import java.util.Set;
import java.util.TreeSet;
import java.util.regex.Matcher;
import java.util.regex.Pattern;
import java.util.stream.Collectors;

/** The public face, and the rules of LANGUAGE.md that can be read from the class or its source. */
public final class FaceTest {
    private static final Check CHECK = new Check("FaceTest");

    private static final String[] METHODS = {
        "int append(int,int,int,int,int)", "int truncate(int)", "int load()", "int errorPosition()", "int capacity()",
        "boolean setCapacity(int)", "int routes()", "long route(int,int)", "int addRoute(int,int,int)",
        "int removeRoute(int,int)", "int answer(int)", "int matching(int)", "int packet(int,int)", "int age()",
        "int logged()", "long log(int,int)", "int compressed()", "long entry(int,int)", "int hopHits(int)",
        "int busiest()", "int coldest()", "int exceptions()", "int targetSize()", "long target(int,int)",
        "int lostHits()", "int lostHitsWith(int)", "int enough()", "int hardwareSize()", "long hardware(int,int)",
        "int action(int)", "int changes()", "long change(int,int)", "int missed()", "int missedAfter(int)",
        "int sync(int)", "int clear()", "long addresses(int)", "long hardwareAddresses()", "long nextOther(int)",
        "int runs()", "boolean isRedundant(int)", "int redundant()", "int nesting()", "int compressedWithout(int)",
        "int costliest()", "long count(int)", "int undo()", "int reportLength(int)", "int reportByte(int,int)",
        "int tapeLength()"};

    public static void main(String[] args) throws Exception {
        face();
        constants();
        members();
        source();
        CHECK.end();
    }

    private static String signature(Method m) {
        return m.getReturnType() + " " + m.getName()
                + Arrays.stream(m.getParameterTypes()).map(Class::getName).collect(Collectors.joining(",", "(", ")"));
    }

    private static void face() {
        Set<String> due = new TreeSet<>(List.of(METHODS));
        Set<String> got = new TreeSet<>();
        for (Method m : ForwardingTable.class.getDeclaredMethods()) {
            if (!Modifier.isPrivate(m.getModifiers()) && !m.isSynthetic()) {
                got.add(signature(m));
                CHECK.due(m.getName() + " is public and no static", m.getModifiers(), Modifier.PUBLIC);
            }
        }
        CHECK.due("methods of the face", String.join("\n", got), String.join("\n", due));
        Constructor<?>[] constructors = ForwardingTable.class.getDeclaredConstructors();
        CHECK.due("constructors", constructors.length, 1);
        CHECK.due("the constructor is public", constructors[0].getModifiers(), Modifier.PUBLIC);
        CHECK.due("the constructor's parameters", constructors[0].getParameterCount(), 0);
        CHECK.due("the class is public and final", ForwardingTable.class.getModifiers(), Modifier.PUBLIC | Modifier.FINAL);
    }

    private static void constants() throws Exception {
        Set<String> got = new TreeSet<>();
        for (Field f : ForwardingTable.class.getDeclaredFields()) {
            if (!Modifier.isPrivate(f.getModifiers()) && !f.isSynthetic()) {
                got.add(f.getType() + " " + f.getName() + " " + f.get(null));
                CHECK.due(f.getName() + " is a constant", f.getModifiers(),
                        Modifier.PUBLIC | Modifier.STATIC | Modifier.FINAL);
            }
        }
        CHECK.due("constants", String.join("\n", got), "int EXCEPTION 16\nint FULL -3\nint INVALID -1\nint NOT_FOUND -2");
    }

    /** Rules 1, 2, 5 and 11. */
    private static void members() {
        Set<String> names = Arrays.stream(METHODS).map(m -> m.replaceAll(".* |\\(.*", "")).collect(Collectors.toSet());
        CHECK.due("fifty methods", names.size(), 50);
        Class<?>[] inside = ForwardingTable.class.getDeclaredClasses();
        CHECK.due("at most twelve classes", inside.length < 12, true);
        for (Class<?> c : inside) {
            CHECK.due(c + " is static", Modifier.isStatic(c.getModifiers()), true);
            CHECK.due(c + " is not public", Modifier.isPublic(c.getModifiers()), false);
            CHECK.due(c + " has no class inside", c.getDeclaredClasses().length, 0);
            ownMembers(c, names);
        }
        ownMembers(ForwardingTable.class, Set.of());
        for (Method m : ForwardingTable.class.getDeclaredMethods()) {
            if (Modifier.isPrivate(m.getModifiers())) {
                CHECK.due(m + " has no name of the face", names.contains(m.getName()), false);
            }
        }
    }

    private static void ownMembers(Class<?> c, Set<String> names) {
        int fields = 0;
        for (Field f : c.getDeclaredFields()) {
            if (Modifier.isStatic(f.getModifiers())) {
                CHECK.due(f + " is final", Modifier.isFinal(f.getModifiers()), true);
                CHECK.due(f + " is a number", f.getType() == int.class || f.getType() == long.class, true);
            } else {
                fields++;
            }
        }
        CHECK.due(c + " has at most twenty fields", fields <= 20, true);
        for (Method m : c.getDeclaredMethods()) {
            CHECK.due(m + " has at most seven parameters", m.getParameterCount() <= 7, true);
            CHECK.due(m + " has no name of the face", names.contains(m.getName()), false);
        }
    }

    /** Rules 3, 4, 6, 12 and 13, as far as words tell. */
    private static void source() throws Exception {
        String text = Files.readString(Path.of("src/main/java/ForwardingTable.java"));
        String code = text.replaceAll("(?s)/\\*.*?\\*/", "").replaceAll("//[^\n]*", "");
        String[] banned = {"throw", "throws", "try", "catch", "finally", "synchronized", "assert", "import", "package",
            "protected", "interface", "Object", "System\\.(?!arraycopy)\\w+", "Math\\.\\w+Exact", "native", "volatile",
            "transient", "->", "::", "@\\w+", "hashCode", "toString", "Thread", "Random", "getClass", "float", "double"};
        for (String word : banned) {
            Matcher m = Pattern.compile(Character.isLetter(word.charAt(0)) ? "\\b" + word + "\\b" : word).matcher(code);
            CHECK.due("the word " + word, m.find() ? m.group() : "", "");
        }
        Matcher library = Pattern.compile("\\b(Math|System|Integer|Long|Arrays)\\.(\\w+)").matcher(code);
        Set<String> used = new TreeSet<>();
        while (library.find()) {
            used.add(library.group());
        }
        CHECK.due("the library", String.join(" ", used), "Math.max Math.min System.arraycopy");
        CHECK.due("signs from 10 to 126 alone", text.chars().allMatch(c -> c == 10 || c >= 32 && c < 127), true);
        objectsAreMadeInConstructors(code);
        methodsAreShort(code);
    }

    /** No call makes an object: new stands in fields' initialisers and in constructors alone. */
    private static void objectsAreMadeInConstructors(String code) {
        for (String line : code.split("\n")) {
            if (line.contains("new ")) {
                boolean inField = line.matches(" +(private )?final .* = new .*;");
                boolean inConstructor = line.matches(" +\\w+(\\[i\\])? = new .*;");
                CHECK.due("in a field or a constructor: " + line.trim(), inField || inConstructor, true);
            }
        }
    }

    private static void methodsAreShort(String code) {
        int depth = 0;
        int since = 0;
        int number = 0;
        for (String line : code.split("\n")) {
            number++;
            if (line.matches("    (    )?(private |public |static )*[\\w\\[\\]]+ \\w+\\([^;]*\\{")) {
                since = number;
                depth = line.indexOf(line.trim());
            }
            if (since > 0 && line.matches(" {" + depth + "}\\}")) {
                CHECK.due("the method that ends in line " + number + " has at most 60 lines", number - since < 60, true);
                since = 0;
            }
        }
    }
}

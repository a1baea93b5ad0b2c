import java.io.ByteArrayOutputStream;
import java.io.PrintStream;
import java.lang.reflect.Array;
import java.lang.reflect.Field;
import java.lang.reflect.Method;
import java.lang.reflect.Modifier;
import java.net.URL;
import java.net.URLClassLoader;
import java.nio.file.Files;
import java.nio.file.Path;
import java.util.Set;
import java.util.TreeSet;
import java.util.regex.Matcher;
import java.util.regex.Pattern;
import java.util.stream.Collectors;
import java.util.stream.Stream;
import javax.tools.ToolProvider;

/** What README.md says is so: its example prints what stands there, and its names and numbers are the class's. */
public final class HexLoomReadme {
    private static int wrong = 0;

    private static void due(String what, Object got, Object want) {
        if (!got.equals(want)) {
            wrong++;
            System.out.println(what + ": " + got + ", due is " + want);
        }
    }

    public static void main(String[] args) throws Exception {
        String readme = Files.readString(Path.of("README.md"));
        due("what the example prints", printed(block(readme, "java")), block(readme, "text").strip());
        due("the tests that are told of", names(readme, "`(HexLoom\\w+)`"), testsThatAreThere());
        due("the calls that are told of", names(readme, "(?m)^\\| `(\\w+)\\("), callsThatAreThere());
        due("the classes that are told of", names(section(readme, "## How it is built"), "`(\\w+)`"), classesInside());
        due("some 33,000 elements", Math.round(elementsOf(new HexLoom()) / 1000.0), 33L);
        System.out.println(wrong == 0 ? "README.md is as due" : wrong + " things that README.md says are not so");
        if (wrong != 0) {
            System.exit(1);
        }
    }

    private static String block(String readme, String language) {
        Matcher m = Pattern.compile("(?s)```" + language + "\n(.*?)```").matcher(readme);
        return m.find() ? m.group(1) : "";
    }

    private static String section(String readme, String heading) {
        return readme.substring(readme.indexOf(heading) + heading.length());
    }

    private static Set<String> names(String text, String pattern) {
        return Pattern.compile(pattern).matcher(text).results().map(r -> r.group(1))
                .collect(Collectors.toCollection(TreeSet::new));
    }

    /** What the example prints, as the only lines of a program. */
    private static String printed(String example) throws Exception {
        Path folder = Files.createTempDirectory("readme");
        Path source = folder.resolve("Example.java");
        Files.writeString(source, "public class Example { public static void main(String[] args) {\n" + example + "} }\n");
        int code = ToolProvider.getSystemJavaCompiler().run(null, null, null, "--release", "17", "-cp",
                System.getProperty("java.class.path"), "-d", folder.toString(), source.toString());
        due("compiling the example", code, 0);
        if (code != 0) {
            return "";
        }
        ByteArrayOutputStream bytes = new ByteArrayOutputStream();
        PrintStream before = System.out;
        System.setOut(new PrintStream(bytes, true));
        try (URLClassLoader loader = new URLClassLoader(new URL[] {folder.toUri().toURL()})) {
            loader.loadClass("Example").getMethod("main", String[].class).invoke(null, (Object) new String[0]);
        } finally {
            System.setOut(before);
            Files.deleteIfExists(folder.resolve("Example.class"));
            Files.deleteIfExists(source);
            Files.deleteIfExists(folder);
        }
        return bytes.toString().replace(System.lineSeparator(), "\n").strip();
    }

    private static Set<String> testsThatAreThere() throws Exception {
        try (Stream<Path> files = Files.list(Path.of("src/test/java"))) {
            return files.map(f -> f.getFileName().toString().replace(".java", ""))
                    .collect(Collectors.toCollection(TreeSet::new));
        }
    }

    private static Set<String> callsThatAreThere() {
        Set<String> all = new TreeSet<>();
        for (Method m : HexLoom.class.getDeclaredMethods()) {
            if (Modifier.isPublic(m.getModifiers())) {
                all.add(m.getName());
            }
        }
        return all;
    }

    private static Set<String> classesInside() {
        Set<String> all = new TreeSet<>();
        for (Class<?> c : HexLoom.class.getDeclaredClasses()) {
            all.add(c.getSimpleName());
        }
        return all;
    }

    /** All elements of the rows of an object and of the class's own objects that it holds. */
    private static int elementsOf(Object object) throws Exception {
        int all = 0;
        for (Class<?> c = object.getClass(); c != Object.class; c = c.getSuperclass()) {
            for (Field f : c.getDeclaredFields()) {
                if (Modifier.isStatic(f.getModifiers()) || f.getType().isPrimitive()) {
                    continue;
                }
                f.setAccessible(true);
                Object held = f.get(object);
                all += held.getClass().isArray() ? Array.getLength(held) : elementsOf(held);
            }
        }
        return all;
    }
}

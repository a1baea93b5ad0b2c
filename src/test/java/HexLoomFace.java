import java.lang.reflect.Constructor;
import java.lang.reflect.Field;
import java.lang.reflect.Method;
import java.lang.reflect.Modifier;
import java.nio.file.Files;
import java.nio.file.Path;
import java.util.ArrayList;
import java.util.List;
import java.util.Set;
import java.util.TreeSet;
import java.util.regex.Matcher;
import java.util.regex.Pattern;

/** The class has the document's face and nothing more, and keeps to what LANGUAGE.md rules out by word. */
public final class HexLoomFace {
    private static final Set<String> FACE = new TreeSet<>(List.of(
            "int type(long,int)", "int read(int)", "int place()", "int set(int,int)", "int drop(int)",
            "int get(int)", "int fill(int,int,int)", "int copy(int,int,int)", "int clear()",
            "int begin(int,int)", "long start()", "int count(int)", "long run(int,int)", "long next(int)",
            "int tell(int,int)", "int character(int)", "int check()"));
    private static final List<String> RULED_OUT = List.of("throw", "throws", "try", "catch", "finally",
            "synchronized", "assert", "import java.io", "->", "::", "protected", "Thread", "System.out",
            "System.currentTimeMillis", "System.nanoTime", "Random", "hashCode", "toString");

    private static int wrong = 0;

    private static void due(String what, Object got, Object want) {
        if (!got.equals(want)) {
            wrong++;
            System.out.println(what + ": " + got + ", due is " + want);
        }
    }

    public static void main(String[] args) throws Exception {
        Class<?> loom = HexLoom.class;
        due("the class's modifiers", loom.getModifiers(), Modifier.PUBLIC | Modifier.FINAL);
        methods(loom);
        fields(loom);
        Constructor<?>[] made = loom.getDeclaredConstructors();
        due("constructors", made.length, 1);
        due("the constructor is public and takes nothing",
                Modifier.isPublic(made[0].getModifiers()) && made[0].getParameterCount() == 0, true);
        classesInside(loom);
        words(Files.readString(Path.of("src/main/java/HexLoom.java")));
        System.out.println(wrong == 0 ? "the face is as due" : wrong + " things of the face are not as due");
        if (wrong != 0) {
            System.exit(1);
        }
    }

    private static void methods(Class<?> loom) {
        Set<String> seen = new TreeSet<>();
        Set<String> publicNames = new TreeSet<>();
        for (Method m : loom.getDeclaredMethods()) {
            if (Modifier.isPrivate(m.getModifiers())) {
                continue;
            }
            List<String> taken = new ArrayList<>();
            for (Class<?> p : m.getParameterTypes()) {
                taken.add(p.getName());
            }
            seen.add(m.getReturnType().getName() + " " + m.getName() + "(" + String.join(",", taken) + ")");
            publicNames.add(m.getName());
            due(m.getName() + "'s modifiers", m.getModifiers(), Modifier.PUBLIC);
        }
        due("methods", seen, FACE);
        List<Class<?>> all = new ArrayList<>(List.of(loom.getDeclaredClasses()));
        all.add(loom);
        for (Class<?> c : all) {
            for (Method m : c.getDeclaredMethods()) {
                if (!Modifier.isPublic(m.getModifiers())) {
                    due("a hidden " + m.getName() + " has a public one's name", publicNames.contains(m.getName()), false);
                }
                due(m.getName() + " takes at most seven", m.getParameterCount() <= 7, true);
            }
        }
    }

    private static void fields(Class<?> loom) throws Exception {
        Set<String> seen = new TreeSet<>();
        for (Field f : loom.getDeclaredFields()) {
            if (!Modifier.isPrivate(f.getModifiers())) {
                seen.add(Modifier.toString(f.getModifiers()) + " " + f.getType() + " " + f.getName() + " " + f.getInt(null));
            }
            if (Modifier.isStatic(f.getModifiers())) {
                due(f.getName() + " is final", Modifier.isFinal(f.getModifiers()), true);
            }
        }
        due("constants", seen, Set.of("public static final int NONE -1", "public static final int FULL -2"));
    }

    private static void classesInside(Class<?> loom) {
        due("at most twelve classes", loom.getDeclaredClasses().length <= 11, true);
        for (Class<?> c : loom.getDeclaredClasses()) {
            int m = c.getModifiers();
            due(c.getName() + " is static and not public", Modifier.isStatic(m) && !Modifier.isPublic(m), true);
        }
    }

    private static void words(String source) {
        String code = source.replaceAll("(?s)/\\*.*?\\*/", "").replaceAll("//[^\n]*", "");
        for (String word : RULED_OUT) {
            String edge = Character.isLetter(word.charAt(0)) ? "\\b" : "";
            Matcher m = Pattern.compile(edge + Pattern.quote(word) + edge).matcher(code);
            due("'" + word + "' stands in the class", m.find(), false);
        }
    }
}

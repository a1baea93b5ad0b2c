import java.lang.reflect.Constructor;
import java.lang.reflect.Field;
import java.lang.reflect.Method;
import java.lang.reflect.Modifier;
import java.util.ArrayList;
import java.util.List;
import java.util.Set;
import java.util.TreeSet;

/** The class has the document's face and nothing more (rule 1 of LANGUAGE.md). */
public final class HexLoomFace {
    private static final Set<String> FACE = new TreeSet<>(List.of(
            "int type(long,int)", "int read(int)", "int place()", "int set(int,int)", "int drop(int)",
            "int get(int)", "int fill(int,int,int)", "int copy(int,int,int)", "int clear()",
            "int begin(int,int)", "long start()", "int count(int)", "long run(int,int)", "long next(int)",
            "int tell(int,int)", "int character(int)", "int check()"));

    private static int wrong = 0;

    private static void due(String what, Object got, Object want) {
        if (!got.equals(want)) {
            wrong++;
            System.out.println(what + ": " + got + ", due is " + want);
        }
    }

    public static void main(String[] args) throws Exception {
        Class<?> loom = HexLoom.class;
        due("the class's modifiers", loom.getModifiers(), Modifier.PUBLIC | Modifier.FINAL);
        methods(loom);
        fields(loom);
        Constructor<?>[] made = loom.getDeclaredConstructors();
        due("constructors", made.length, 1);
        due("the constructor is public and takes nothing",
                Modifier.isPublic(made[0].getModifiers()) && made[0].getParameterCount() == 0, true);
        classesInside(loom);
        System.out.println(wrong == 0 ? "the face is as due" : wrong + " things of the face are not as due");
        if (wrong != 0) {
            System.exit(1);
        }
    }

    private static void methods(Class<?> loom) {
        Set<String> seen = new TreeSet<>();
        Set<String> publicNames = new TreeSet<>();
        for (Method m : loom.getDeclaredMethods()) {
            if (Modifier.isPrivate(m.getModifiers())) {
                continue;
            }
            List<String> taken = new ArrayList<>();
            for (Class<?> p : m.getParameterTypes()) {
                taken.add(p.getName());
            }
            seen.add(m.getReturnType().getName() + " " + m.getName() + "(" + String.join(",", taken) + ")");
            publicNames.add(m.getName());
            due(m.getName() + "'s modifiers", m.getModifiers(), Modifier.PUBLIC);
        }
        due("methods", seen, FACE);
        List<Class<?>> all = new ArrayList<>(List.of(loom.getDeclaredClasses()));
        all.add(loom);
        for (Class<?> c : all) {
            for (Method m : c.getDeclaredMethods()) {
                if (!Modifier.isPublic(m.getModifiers())) {
                    due("a hidden " + m.getName() + " has a public one's name", publicNames.contains(m.getName()), false);
                }
            }
        }
    }

    private static void fields(Class<?> loom) throws Exception {
        Set<String> seen = new TreeSet<>();
        for (Field f : loom.getDeclaredFields()) {
            if (!Modifier.isPrivate(f.getModifiers())) {
                seen.add(Modifier.toString(f.getModifiers()) + " " + f.getType() + " " + f.getName() + " " + f.getInt(null));
            }
            if (Modifier.isStatic(f.getModifiers())) {
                due(f.getName() + " is final", Modifier.isFinal(f.getModifiers()), true);
            }
        }
        due("constants", seen, Set.of("public static final int NONE -1", "public static final int FULL -2"));
    }

    private static void classesInside(Class<?> loom) {
        for (Class<?> c : loom.getDeclaredClasses()) {
            int m = c.getModifiers();
            due(c.getName() + " is static and not public", Modifier.isStatic(m) && !Modifier.isPublic(m), true);
        }
    }
}

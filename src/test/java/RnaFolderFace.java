import java.lang.reflect.Constructor;
import java.lang.reflect.Field;
import java.lang.reflect.Method;
import java.lang.reflect.Modifier;
import java.util.Arrays;
import java.util.List;
import java.util.TreeSet;

/** The public face of the document, and the rules of LANGUAGE.md that show in the compiled class. */
public final class RnaFolderFace {
    private static final List<String> FACE = List.of(
            "push(int)", "pop()", "set(int,int)", "hold(int,int)", "tune(int,int)", "length()", "fits(int,int)",
            "folds()", "best()", "bestFolds()", "bestCode()", "partner(int)", "bestWith(int,int)",
            "foldsWith(int,int)", "scoreOf(int)");

    private static int wrong = 0;

    public static void main(String[] args) {
        Class<RnaFolder> c = RnaFolder.class;
        check("the class is public and final", c.getModifiers() == (Modifier.PUBLIC | Modifier.FINAL));
        check("it has no nested class", c.getDeclaredClasses().length == 0);
        check("it extends nothing", c.getSuperclass() == Object.class && c.getInterfaces().length == 0);
        constructors(c);
        methods(c);
        fields(c);
        System.out.println(wrong == 0 ? "the face is as due" : wrong + " things are not as due");
        if (wrong != 0) {
            System.exit(1);
        }
    }

    private static void check(String what, boolean holds) {
        if (!holds) {
            wrong++;
            System.out.println("not so: " + what);
        }
    }

    private static void constructors(Class<?> c) {
        Constructor<?>[] all = c.getDeclaredConstructors();
        check("one constructor", all.length == 1);
        check("it is public and takes an int", Modifier.isPublic(all[0].getModifiers())
                && Arrays.equals(all[0].getParameterTypes(), new Class<?>[] {int.class}));
    }

    private static void methods(Class<?> c) {
        TreeSet<String> seen = new TreeSet<>();
        TreeSet<String> publicNames = new TreeSet<>();
        FACE.forEach(call -> publicNames.add(call.substring(0, call.indexOf('('))));
        for (Method m : c.getDeclaredMethods()) {
            check(m.getName() + " takes at most seven", m.getParameterCount() <= 7);
            if (Modifier.isPrivate(m.getModifiers())) {
                check("private " + m.getName() + " has a name of its own", !publicNames.contains(m.getName()));
                continue;
            }
            String types = String.join(",", Arrays.stream(m.getParameterTypes()).map(Class::getName).toList());
            seen.add(m.getName() + "(" + types + ")");
            check(m.getName() + " is public, of the object, and answers an int",
                    m.getModifiers() == Modifier.PUBLIC && m.getReturnType() == int.class);
            check(m.getName() + " throws nothing", m.getExceptionTypes().length == 0);
        }
        check("the methods are those of the document, not " + seen, seen.equals(new TreeSet<>(FACE)));
    }

    private static void fields(Class<?> c) {
        int kept = 0;
        for (Field f : c.getDeclaredFields()) {
            check(f.getName() + " is private", Modifier.isPrivate(f.getModifiers()));
            if (Modifier.isStatic(f.getModifiers())) {
                check(f.getName() + " is a constant",
                        Modifier.isFinal(f.getModifiers()) && (f.getType() == int.class || f.getType() == long.class));
            } else {
                kept++;
            }
        }
        check("at most forty fields", kept <= 40);
    }
}

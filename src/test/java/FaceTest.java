import java.lang.reflect.Constructor;
import java.lang.reflect.Field;
import java.lang.reflect.Method;
import java.lang.reflect.Modifier;
import java.util.Arrays;
import java.util.TreeSet;

/**
 * The public face is the document's, and nothing more (LANGUAGE.md, rule 1); and what of its rules 2, 5
 * and 11 the compiled class shows.
 */
public final class FaceTest {
    private static final String[] METHODS = {
        "int post(int, int, int)", "int reach(int, int)", "boolean weather(int, int)",
        "int sees(int, int, int, int)", "int manned(int)", "int open(int)",
        "int sight(int, int, int, int, int)", "int plot(int, int)", "int corners(int, int)",
        "long corner(int, int, int, int)", "int box(int, int, int)", "int plotted(int, int)",
        "boolean speed(int)", "int track(int, int)", "int plan(int, int, int, int)",
        "boolean in(int)", "int boat(int, int, int)", "boolean call(int, int)", "int step(int)",
        "int log(int, int)", "int count(int)",
    };

    public static void main(String[] args) {
        Class<?> face = CoastWatch.class;
        Due.is("public final", face.getModifiers() & ~Modifier.PUBLIC, Modifier.FINAL);
        TreeSet<String> names = new TreeSet<>();
        TreeSet<String> open = new TreeSet<>();
        for (Method m : face.getDeclaredMethods()) {
            if (!Modifier.isPrivate(m.getModifiers())) {
                open.add(told(m));
                names.add(m.getName());
                Due.is("public: " + m, Modifier.isPublic(m.getModifiers()), true);
                throwsAsTold(m);
            }
        }
        TreeSet<String> wanted = new TreeSet<>(Arrays.asList(METHODS));
        Due.is("the methods are " + open + ", due are " + wanted, open.equals(wanted), true);
        for (Method m : face.getDeclaredMethods()) {
            if (Modifier.isPrivate(m.getModifiers())) {
                Due.is("private and public: " + m.getName(), names.contains(m.getName()), false);
            }
        }
        for (Field f : face.getDeclaredFields()) {
            if (!Modifier.isPrivate(f.getModifiers())) {
                Due.is("open field " + f.getName(), f.getName().equals("NONE"), true);
            }
        }
        Constructor<?>[] made = face.getDeclaredConstructors();
        Due.is("constructors", made.length, 1);
        Due.is("its parameters", made[0].getParameterCount(), 0);
        Due.is("it is public", Modifier.isPublic(made[0].getModifiers()), true);
        for (Class<?> inside : face.getDeclaredClasses()) {
            Due.is("static: " + inside, Modifier.isStatic(inside.getModifiers()), true);
            Due.is("not public: " + inside, Modifier.isPublic(inside.getModifiers()), false);
            keepsRules(inside, names);
        }
        keepsRules(face, new TreeSet<>());
        Due.is("some twelve classes", face.getDeclaredClasses().length <= 11, true);
        Due.is("NONE", CoastWatch.NONE, -1);
        Due.end();
    }

    private static void keepsRules(Class<?> made, TreeSet<String> publicNames) {
        int fields = 0;
        for (Field f : made.getDeclaredFields()) {
            boolean ofAll = Modifier.isStatic(f.getModifiers());
            fields += ofAll ? 0 : 1;
            Due.is("never changed: " + f, !ofAll || Modifier.isFinal(f.getModifiers()), true);
        }
        Due.is("some twenty fields: " + made, fields <= 20, true);
        for (Method m : made.getDeclaredMethods()) {
            Due.is("at most seven parameters: " + m, m.getParameterCount() <= 7, true);
            Due.is("the face alone has that name: " + m, publicNames.contains(m.getName()), false);
        }
        for (Class<?> deeper : made.getDeclaredClasses()) {
            Due.is("nothing inside what is inside: " + deeper, made == CoastWatch.class, true);
        }
    }

    private static void throwsAsTold(Method m) {
        boolean told = m.getName().equals("corner") || m.getName().equals("box");
        Class<?>[] thrown = m.getExceptionTypes();
        Due.is("what " + m.getName() + " throws", thrown.length, told ? 1 : 0);
        if (thrown.length == 1) {
            Due.is("it is " + thrown[0], thrown[0] == java.util.NoSuchElementException.class, true);
        }
    }

    private static String told(Method m) {
        StringBuilder text = new StringBuilder();
        for (Class<?> p : m.getParameterTypes()) {
            text.append(text.length() == 0 ? "" : ", ").append(p.getName());
        }
        return m.getReturnType().getName() + " " + m.getName() + "(" + text + ")";
    }
}

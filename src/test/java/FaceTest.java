import java.lang.reflect.Constructor;
import java.lang.reflect.Field;
import java.lang.reflect.Method;
import java.lang.reflect.Modifier;
import java.util.HashSet;
import java.util.Set;
import java.util.TreeSet;

/** The class shows the document's face and nothing more. */
public final class FaceTest {
    private static final Set<String> FACE = Set.of("int feed(long,long,long)", "int cellar()", "int evening()",
            "int body(int,int)", "int mind(int)", "boolean may(int,int)", "int turn(int,int)",
            "int round(int,int,int)", "boolean fetch(int)", "boolean undo()", "int judged(int)", "int rings(int)",
            "int left()", "int enough(int)", "int home(int)", "int met(int)", "boolean ready(int,int,int)",
            "int best()", "int most(int)", "int fewest(int,int)", "int which(int)", "int least(int,int)",
            "int cheap(int,int)", "int muddles(int)", "int chance(int)", "boolean see(int,int)", "int rows(int)",
            "int pair(int,int,int)", "int look(int)", "int evenings(int,int,int)", "boolean mark(int,boolean)",
            "int count(int)");

    private static int failed = 0;

    private FaceTest() {
    }

    public static void main(String[] args) {
        Class<?> c = CellarTurns.class;
        check("public and final", Modifier.isPublic(c.getModifiers()) && Modifier.isFinal(c.getModifiers()));
        check("NONE", CellarTurns.NONE == -1);
        Set<String> shown = new TreeSet<>();
        Set<String> names = new HashSet<>();
        for (Method m : c.getDeclaredMethods()) {
            if (!Modifier.isPrivate(m.getModifiers())) {
                check("public " + m, Modifier.isPublic(m.getModifiers()) && !Modifier.isStatic(m.getModifiers()));
                shown.add(told(m));
                names.add(m.getName());
            }
        }
        check("methods " + shown, shown.equals(new TreeSet<>(FACE)));
        for (Field f : c.getDeclaredFields()) {
            boolean ofFace = f.getName().equals("NONE") && Modifier.isPublic(f.getModifiers());
            check("field " + f, ofFace || Modifier.isPrivate(f.getModifiers()));
        }
        Constructor<?>[] made = c.getDeclaredConstructors();
        check("one constructor", made.length == 1 && made[0].getParameterCount() == 0
                && Modifier.isPublic(made[0].getModifiers()));
        privateNames(c, names);
        inside(c, names);
        System.out.println(failed == 0 ? "the face is as due" : failed + " not as due");
        if (failed != 0) {
            System.exit(1);
        }
    }

    private static void check(String what, boolean right) {
        if (!right) {
            failed++;
            System.out.println("not as due: " + what);
        }
    }

    private static String told(Method m) {
        StringBuilder s = new StringBuilder();
        for (Class<?> p : m.getParameterTypes()) {
            s.append(s.length() == 0 ? "" : ",").append(p.getSimpleName());
        }
        return m.getReturnType().getSimpleName() + " " + m.getName() + "(" + s + ")";
    }

    private static void privateNames(Class<?> c, Set<String> names) {
        for (Method m : c.getDeclaredMethods()) {
            check("a private name of the face: " + m,
                    !Modifier.isPrivate(m.getModifiers()) || !names.contains(m.getName()));
        }
    }

    private static void inside(Class<?> c, Set<String> names) {
        check("some twelve classes", c.getDeclaredClasses().length <= 12);
        for (Class<?> inner : c.getDeclaredClasses()) {
            check("hidden " + inner, !Modifier.isPublic(inner.getModifiers())
                    && !Modifier.isProtected(inner.getModifiers()) && Modifier.isStatic(inner.getModifiers()));
            privateNames(inner, names);
            int fields = 0;
            for (Field f : inner.getDeclaredFields()) {
                boolean kept = !Modifier.isStatic(f.getModifiers());
                check("static and final: " + f, kept || Modifier.isFinal(f.getModifiers()));
                fields += kept ? 1 : 0;
            }
            check("some twenty fields: " + inner, fields <= 20);
        }
    }
}

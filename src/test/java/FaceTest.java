import java.lang.reflect.Constructor;
import java.lang.reflect.Field;
import java.lang.reflect.Member;
import java.lang.reflect.Method;
import java.lang.reflect.Modifier;
import java.util.Arrays;
import java.util.TreeSet;

/** The public face is the document's, and nothing else of the class can be seen from outside. */
public final class FaceTest {
    private static final Checks checks = new Checks();
    private static final String[] FACE = {
        "int feed(int,long)", "int add(int)", "int drop()", "int find()", "int word(int,int)", "int count(int)",
        "int price(int,int,int,int)", "int sound(int)", "int model(int)", "int distance()", "int way(int,int)",
        "int near(int)", "int nearest(int)", "int complete(int)", "int found(int,int)", "int node(int,int)", "int pair()",
        "int learn()", "int spread()", "int mend(int)", "int part(int,int)", "int put(int,int,int)",
        "int forge(int,int,int)", "int status()"};

    public static void main(String[] args) {
        Class<?> c = WordMender.class;
        checks.due("NONE", WordMender.NONE, -1);
        checks.due("BAD", WordMender.BAD, -2);
        checks.due("FULL", WordMender.FULL, -4);
        checks.holds("the class is public and final", c.getModifiers() == (Modifier.PUBLIC | Modifier.FINAL));
        TreeSet<String> methods = new TreeSet<>();
        for (Method m : c.getDeclaredMethods()) {
            if (!isHidden(m)) methods.add(told(m));
            else for (String f : FACE) checks.holds("private " + m.getName(), !f.contains(" " + m.getName() + "("));
        }
        checks.same("methods", methods.toString(), new TreeSet<>(Arrays.asList(FACE)).toString());
        TreeSet<String> fields = new TreeSet<>();
        for (Field f : c.getDeclaredFields()) {
            if (!isHidden(f)) fields.add(Modifier.toString(f.getModifiers()) + " " + f.getType() + " " + f.getName());
        }
        checks.same("fields", fields.toString(),
                "[public static final int BAD, public static final int FULL, public static final int NONE]");
        Constructor<?>[] made = c.getDeclaredConstructors();
        checks.due("constructors", made.length, 1);
        checks.holds("it is public and takes nothing", made[0].getModifiers() == Modifier.PUBLIC && made[0].getParameterCount() == 0);
        for (Class<?> inside : c.getDeclaredClasses()) {
            int m = inside.getModifiers();
            checks.holds(inside + " is static", Modifier.isStatic(m) || inside.isInterface());
            checks.holds(inside + " is hidden", !Modifier.isPublic(m) && !Modifier.isProtected(m));
        }
        checks.end();
    }

    private static boolean isHidden(Member m) {
        return Modifier.isPrivate(m.getModifiers()) || m.isSynthetic();
    }

    private static String told(Method m) {
        StringBuilder s = new StringBuilder(m.getReturnType() + " " + m.getName() + "(");
        for (Class<?> p : m.getParameterTypes()) s.append(s.charAt(s.length() - 1) == '(' ? "" : ",").append(p);
        checks.holds(m.getName() + " is public alone", m.getModifiers() == Modifier.PUBLIC);
        return s.append(')').toString();
    }
}

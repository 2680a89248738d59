import java.lang.reflect.Constructor;
import java.lang.reflect.Field;
import java.lang.reflect.Member;
import java.lang.reflect.Method;
import java.lang.reflect.Modifier;
import java.util.Arrays;
import java.util.Set;
import java.util.TreeSet;

/** The public face is the document's and nothing else can be seen from outside. */
public final class FaceTest {
    private static final String[] METHODS = {
        "int add(int,int,int,int)", "int alter(int,int,int,int,int)", "int back()", "int code(int,int)",
        "int load(int,int,int)", "int set(int,int)", "int read(int)", "int value(int,int)", "int plain(int,int)",
        "int ends(int)", "int heat(int,int)", "int trace(int,int)", "int entry(int,int,int)",
        "int checks(int,int)", "int snapshot(int,int,int)", "int writes(int)", "int better(int)",
        "int sheet(int,int,int)", "int lose(int)", "int lay(int,int,int,int)", "int get(int,int,int)",
        "int copy(int,int,int,int,int)", "int write(int,int)", "int count(int)", "long digest()"};

    public static void main(String[] args) {
        Due due = new Due();
        due.is("modifiers", TraceTrees.class.getModifiers(), Modifier.PUBLIC | Modifier.FINAL);
        Set<String> methods = new TreeSet<>();
        for (Method m : TraceTrees.class.getDeclaredMethods()) {
            if (isSeen(m)) {
                String types = Arrays.toString(Arrays.stream(m.getParameterTypes()).map(Class::getName).toArray());
                methods.add(m.getReturnType() + " " + m.getName()
                        + types.replace("[", "(").replace("]", ")").replace(" ", ""));
                due.holds(m.getName() + " is public and of the object", m.getModifiers() == Modifier.PUBLIC);
            } else {
                due.holds(m.getName() + " has a name of its own", !isName(m.getName()));
            }
        }
        due.holds("methods " + methods, methods.equals(new TreeSet<>(Arrays.asList(METHODS))));
        Set<String> fields = new TreeSet<>();
        for (Field f : TraceTrees.class.getDeclaredFields()) {
            if (isSeen(f)) {
                fields.add(f.getName());
                due.is(f.getName(), f.getModifiers(), Modifier.PUBLIC | Modifier.STATIC | Modifier.FINAL);
            }
        }
        due.holds("fields " + fields, fields.equals(new TreeSet<>(Arrays.asList("NONE", "BAD", "NOT", "FULL"))));
        Constructor<?>[] made = TraceTrees.class.getDeclaredConstructors();
        due.is("constructors", made.length, 1);
        due.is("constructor", made[0].getModifiers(), Modifier.PUBLIC);
        due.is("its parameters", made[0].getParameterCount(), 0);
        due.is("NONE", TraceTrees.NONE, -1);
        due.is("BAD", TraceTrees.BAD, -2);
        due.is("NOT", TraceTrees.NOT, -3);
        due.is("FULL", TraceTrees.FULL, -4);
        due.end();
    }

    private static boolean isSeen(Member m) {
        return !Modifier.isPrivate(m.getModifiers());
    }

    private static boolean isName(String name) {
        return Arrays.stream(METHODS).anyMatch(m -> m.contains(" " + name + "("));
    }
}

import java.lang.reflect.Constructor;
import java.lang.reflect.Field;
import java.lang.reflect.Method;
import java.lang.reflect.Modifier;
import java.util.Arrays;
import java.util.Set;
import java.util.TreeSet;

/** The face of the class is the document's, and nothing more of it can be seen from outside. */
public final class FaceTest {
    private static final String[] METHODS = {
        "int net(int)", "int line(int,int)", "int node(int,int,int)", "int purse(int,int)", "int rule(int,int)",
        "int count(int)", "int plan(int,int)", "int play(int,int)", "int burns(int,int)", "int best(int,int)",
        "int take(int)", "int least(int,int)", "int live(int,int,int)", "int share(int,int,int)", "int worst(int)",
        "int mean(int,int,int)", "long chance(int,int,int,int,int,int)", "int wall(int,int,int)", "int raze()",
        "int board(int)"
    };

    private static final Due DUE = new Due("FaceTest");

    public static void main(String[] args) {
        DUE.holds("public and final", FireNets.class.getModifiers() == (Modifier.PUBLIC | Modifier.FINAL));
        constructors();
        methods();
        constants();
        inside();
        DUE.close();
    }

    private static void constructors() {
        Constructor<?>[] made = FireNets.class.getDeclaredConstructors();
        DUE.is("constructors", made.length, 1);
        DUE.holds("a public one", Modifier.isPublic(made[0].getModifiers()));
        DUE.is("without parameters", made[0].getParameterCount(), 0);
    }

    private static void methods() {
        Set<String> open = new TreeSet<>();
        Set<String> names = new TreeSet<>();
        for (Method method : FireNets.class.getDeclaredMethods()) {
            if (Modifier.isPrivate(method.getModifiers())) continue;
            names.add(method.getName());
            open.add(told(method));
            DUE.holds(method + " is plainly public", method.getModifiers() == Modifier.PUBLIC);
        }
        DUE.holds("methods " + open, open.equals(new TreeSet<>(Arrays.asList(METHODS))));
        for (Method method : FireNets.class.getDeclaredMethods()) {
            boolean hidden = Modifier.isPrivate(method.getModifiers());
            DUE.holds("private " + method, !hidden || !names.contains(method.getName()));
        }
    }

    private static String told(Method method) {
        StringBuilder text = new StringBuilder();
        text.append(method.getReturnType()).append(' ').append(method.getName()).append('(');
        for (Class<?> kind : method.getParameterTypes()) {
            if (text.charAt(text.length() - 1) != '(') text.append(',');
            text.append(kind);
        }
        return text.append(')').toString();
    }

    private static void constants() {
        Set<String> open = new TreeSet<>();
        for (Field field : FireNets.class.getDeclaredFields()) {
            if (Modifier.isPrivate(field.getModifiers())) continue;
            open.add(field.getName());
            int due = Modifier.PUBLIC | Modifier.STATIC | Modifier.FINAL;
            DUE.holds(field + " is a constant", field.getModifiers() == due && field.getType() == int.class);
        }
        DUE.holds("constants " + open, open.equals(Set.of("NONE", "UNKNOWN", "OUTSIDE", "NOT", "FULL")));
        DUE.is("NONE", FireNets.NONE, -1);
        DUE.is("UNKNOWN", FireNets.UNKNOWN, -1001);
        DUE.is("OUTSIDE", FireNets.OUTSIDE, -1002);
        DUE.is("NOT", FireNets.NOT, -1003);
        DUE.is("FULL", FireNets.FULL, -1004);
    }

    private static void inside() {
        Class<?>[] inside = FireNets.class.getDeclaredClasses();
        DUE.holds("some twelve classes at most", inside.length < 12);
        for (Class<?> one : inside) {
            int modifiers = one.getModifiers();
            DUE.holds(one + " is static", Modifier.isStatic(modifiers));
            DUE.holds(one + " is not open", !Modifier.isPublic(modifiers) && !Modifier.isProtected(modifiers));
            long fields = Arrays.stream(one.getDeclaredFields()).filter(f -> !Modifier.isStatic(f.getModifiers())).count();
            DUE.holds(one + " has some twenty fields at most", fields <= 20);
        }
    }
}

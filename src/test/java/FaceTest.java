import java.lang.reflect.Constructor;
import java.lang.reflect.Field;
import java.lang.reflect.Method;
import java.lang.reflect.Modifier;
import java.util.ArrayList;
import java.util.Arrays;
import java.util.Collections;
import java.util.HashSet;
import java.util.List;
import java.util.Set;

/** The public face is the document's, and nothing else can be seen from outside. */
public final class FaceTest {
    private static final String[] FACE = {
        "int at(int) ISE IOOBE", "void bounds(int,int,int) IOOBE IAE", "int clear()",
        "int column(int,int,int) ISE IAE", "int cost(int,int) IOOBE IAE", "int flow()",
        "int intervals()", "boolean knapsack()", "boolean matching()", "int nature()",
        "int part(int) IOOBE", "int parts()", "int price(int) ISE IOOBE", "int proof() ISE",
        "int reduced(int) ISE IOOBE", "int right(int,int) IOOBE IAE", "int row(int,int) ISE IAE",
        "int side() ISE", "int sign(int) ISE IOOBE", "int solve()", "int sum(int) ISE IOOBE",
        "void term(int,int,int) IOOBE IAE", "int value() ISE", "boolean way()"
    };

    private FaceTest() {
    }

    private static String told(Method method) {
        StringBuilder text = new StringBuilder();
        text.append(method.getReturnType().getName()).append(' ').append(method.getName()).append('(');
        for (int k = 0; k < method.getParameterCount(); k++) {
            text.append(k > 0 ? "," : "").append(method.getParameterTypes()[k].getName());
        }
        text.append(')');
        for (Class<?> thrown : method.getExceptionTypes()) {
            text.append(' ').append(thrown.getSimpleName().replaceAll("[a-z]", ""));
        }
        return text.toString();
    }

    private static void methods() {
        List<String> seen = new ArrayList<>();
        Set<String> publicNames = new HashSet<>();
        for (Method method : FlowParts.class.getDeclaredMethods()) {
            if (!Modifier.isPrivate(method.getModifiers())) {
                seen.add(told(method));
                publicNames.add(method.getName());
                Due.holds(method.getName() + " is public", Modifier.isPublic(method.getModifiers()));
                Due.holds(method.getName() + " is no static one", !Modifier.isStatic(method.getModifiers()));
            }
        }
        Collections.sort(seen);
        List<String> want = new ArrayList<>(Arrays.asList(FACE));
        Collections.sort(want);
        Due.same("the methods", seen.toString(), want.toString());
        privateNames(FlowParts.class, publicNames);
        for (Class<?> inside : FlowParts.class.getDeclaredClasses()) {
            Due.holds(inside.getName() + " is static", Modifier.isStatic(inside.getModifiers()));
            Due.holds(inside.getName() + " is not public", !Modifier.isPublic(inside.getModifiers()));
            privateNames(inside, publicNames);
        }
    }

    private static void privateNames(Class<?> where, Set<String> publicNames) {
        for (Method method : where.getDeclaredMethods()) {
            boolean ofFace = where == FlowParts.class && Modifier.isPublic(method.getModifiers());
            Due.holds(where.getName() + "." + method.getName() + " has a name of its own",
                    ofFace || !publicNames.contains(method.getName()));
            Due.holds(method.getName() + " takes seven at most", method.getParameterCount() <= 7);
        }
    }

    private static void fields() {
        for (Field field : FlowParts.class.getDeclaredFields()) {
            boolean open = field.getName().equals("NONE");
            Due.holds(field.getName() + " is private", open || Modifier.isPrivate(field.getModifiers()));
            Due.holds(field.getName() + " is final if static",
                    !Modifier.isStatic(field.getModifiers()) || Modifier.isFinal(field.getModifiers()));
        }
    }

    public static void main(String[] args) {
        methods();
        fields();
        Constructor<?>[] made = FlowParts.class.getDeclaredConstructors();
        Due.same("constructors", made.length, 1);
        Due.holds("it is public, without arguments",
                Modifier.isPublic(made[0].getModifiers()) && made[0].getParameterCount() == 0);
        Due.holds("the class is final", Modifier.isFinal(FlowParts.class.getModifiers()));
        Due.end();
    }
}

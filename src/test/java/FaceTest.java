import java.lang.reflect.Constructor;
import java.lang.reflect.Field;
import java.lang.reflect.Method;
import java.lang.reflect.Modifier;
import java.util.ArrayList;
import java.util.List;
import java.util.Set;
import java.util.TreeSet;

/** The public face is the document's and no more; no private method bears a public one's name. */
public final class FaceTest {
    private static final Set<String> METHODS = Set.of(
        "int type(int)", "int clear()", "int reads()", "int term()", "int drops(int)", "int first(int)",
        "int of(int,int)", "int shown(int,int)", "int fall()", "int weighs(int,int)", "int weight(int)",
        "int calls(int)", "int call(int,int)", "int follows(int,int)", "int lighter(int)", "int turns(int)",
        "int settles()", "int next(int)", "int letter(int)", "int back()", "int told(int)", "long digest()");

    public static void main(String[] args) {
        Due due = new Due();
        due.answer("NONE", FallingRules.NONE, -1);
        due.answer("BAD", FallingRules.BAD, -2);
        due.answer("NO", FallingRules.NO, -3);
        due.answer("FULL", FallingRules.FULL, -4);
        Class<?> face = FallingRules.class;
        due.holds("the class is public and final",
            Modifier.isPublic(face.getModifiers()) && Modifier.isFinal(face.getModifiers()));

        Set<String> fields = new TreeSet<>();
        for (Field field : face.getDeclaredFields()) {
            if (!Modifier.isPrivate(field.getModifiers())) {
                fields.add(field.getName());
            }
        }
        due.holds("fields " + fields, fields.equals(Set.of("NONE", "BAD", "NO", "FULL")));

        Set<String> names = new TreeSet<>();
        for (String method : METHODS) {
            names.add(method.substring(method.indexOf(' ') + 1, method.indexOf('(')));
        }
        Set<String> methods = new TreeSet<>();
        for (Method method : face.getDeclaredMethods()) {
            if (Modifier.isPrivate(method.getModifiers())) {
                due.holds("private " + method.getName(), !names.contains(method.getName()));
            } else {
                methods.add(told(method));
                due.holds("public " + method.getName(), Modifier.isPublic(method.getModifiers()));
            }
        }
        due.holds("methods " + methods, methods.equals(METHODS));

        Constructor<?>[] constructors = face.getDeclaredConstructors();
        due.holds("one public constructor without arguments", constructors.length == 1
            && Modifier.isPublic(constructors[0].getModifiers()) && constructors[0].getParameterCount() == 0);
        for (Class<?> inner : face.getDeclaredClasses()) {
            due.holds(inner.getName() + " is static", Modifier.isStatic(inner.getModifiers()));
            for (Method method : inner.getDeclaredMethods()) {
                due.holds(inner.getName() + "." + method.getName(), !names.contains(method.getName()));
            }
        }
        due.end();
    }

    private static String told(Method method) {
        List<String> types = new ArrayList<>();
        for (Class<?> type : method.getParameterTypes()) {
            types.add(type.getName());
        }
        return method.getReturnType().getName() + " " + method.getName() + "(" + String.join(",", types) + ")";
    }
}

import java.lang.reflect.Field;
import java.lang.reflect.Method;
import java.lang.reflect.Modifier;
import java.util.Arrays;
import java.util.TreeSet;

/** The public face, and rule 1 of the language: nothing else of the class can be seen. */
public final class FaceTest {
    private static final String[] FACE = {
        "int feed(int)", "void clear()", "int load()", "int faultAt()", "int steps()", "int depth()", "long value(int)",
        "boolean push(int)", "long cell(int)", "int puts()", "long output(int)", "int definitions()", "int body(int)",
        "long name(int)"};

    public static void main(String[] args) {
        Class<WordForge> face = WordForge.class;
        Desk.due("public and final", face.getModifiers(), Modifier.PUBLIC | Modifier.FINAL);
        Desk.due("constructors", face.getDeclaredConstructors().length, 1);
        Desk.due("public constructors", face.getConstructors().length, 1);
        TreeSet<String> seen = new TreeSet<>();
        for (Method method : face.getDeclaredMethods()) {
            if (!Modifier.isPrivate(method.getModifiers())) {
                seen.add(signature(method));
                Desk.due("public: " + method, method.getModifiers(), Modifier.PUBLIC);
            }
        }
        Desk.due("the face's methods " + seen, seen.equals(new TreeSet<>(Arrays.asList(FACE))), true);
        for (Field field : face.getDeclaredFields()) {
            Desk.due("private: " + field, Modifier.isPrivate(field.getModifiers()), true);
        }
        for (Class<?> inside : face.getDeclaredClasses()) {
            checkInside(inside);
        }
        Desk.end();
    }

    private static String signature(Method method) {
        StringBuilder text = new StringBuilder();
        text.append(method.getReturnType().getName()).append(' ').append(method.getName()).append('(');
        for (Class<?> type : method.getParameterTypes()) {
            text.append(type.getName());
        }
        return text.append(')').toString();
    }

    private static void checkInside(Class<?> inside) {
        Desk.due("static: " + inside, Modifier.isStatic(inside.getModifiers()), true);
        Desk.due("not public: " + inside, Modifier.isPublic(inside.getModifiers()), false);
        for (Field field : inside.getDeclaredFields()) {
            int how = field.getModifiers();
            Desk.due("static only if final: " + field, !Modifier.isStatic(how) || Modifier.isFinal(how), true);
        }
        for (Method method : inside.getDeclaredMethods()) {
            for (Method shown : WordForge.class.getMethods()) {
                boolean clash = Modifier.isPrivate(method.getModifiers()) && method.getName().equals(shown.getName());
                Desk.due("bears a face's name: " + method, clash, false);
            }
        }
    }
}

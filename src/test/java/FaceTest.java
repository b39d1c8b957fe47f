import java.lang.reflect.Constructor;
import java.lang.reflect.Field;
import java.lang.reflect.Method;
import java.lang.reflect.Modifier;
import java.util.Arrays;
import java.util.HashSet;
import java.util.Set;

/** The public face of the document, and what LANGUAGE.md says of methods and fields. */
public final class FaceTest {
    private static final String[] FACE = {
        "boolean write(int, int, int)", "boolean remove(int, int)", "int commit()", "int abort()",
        "int crash()", "boolean use(int)", "boolean has(int, int, int)", "int read(int, int, int)",
        "boolean next(int, int, int)", "int found(int)", "boolean snapshot(int)", "int prune()",
        "int sync(int)", "int synced()", "int size()", "int done()"
    };

    public static void main(String[] args) {
        face();
        fields();
        Checks.finish();
    }

    private static void face() {
        Checks.part("the public face");
        Class<?> type = HistoricalTreeStore.class;
        Checks.due("public", Modifier.isPublic(type.getModifiers()), true);
        Checks.due("final", Modifier.isFinal(type.getModifiers()), true);
        Checks.due("nested classes", type.getDeclaredClasses().length, 0);
        Constructor<?>[] constructors = type.getDeclaredConstructors();
        Checks.due("constructors", constructors.length, 1);
        Checks.due("its parameters", constructors[0].getParameterCount(), 0);
        Checks.due("public", Modifier.isPublic(constructors[0].getModifiers()), true);

        Set<String> face = new HashSet<>(Arrays.asList(FACE));
        Set<String> publicNames = new HashSet<>();
        for (String method : FACE) {
            publicNames.add(method.substring(method.indexOf(' ') + 1, method.indexOf('(')));
        }
        for (Method method : type.getDeclaredMethods()) {
            String shape = shape(method);
            if (!Modifier.isPrivate(method.getModifiers())) {
                Checks.due("in the document: " + shape, face.remove(shape), true);
                Checks.due("public " + shape, Modifier.isPublic(method.getModifiers()), true);
                Checks.due("static " + shape, Modifier.isStatic(method.getModifiers()), false);
            } else {
                Checks.due("name of " + shape, publicNames.contains(method.getName()), false);
            }
            Checks.due("many parameters: " + shape, method.getParameterCount() > 7, false);
        }
        Checks.due("missing " + face, face.size(), 0);
    }

    private static String shape(Method method) {
        String parameters = Arrays.toString(method.getParameterTypes());
        return method.getReturnType() + " " + method.getName() + "("
                + parameters.substring(1, parameters.length() - 1) + ")";
    }

    private static void fields() {
        Checks.part("LANGUAGE.md, fields");
        Set<Class<?>> constants = Set.of(int.class, long.class);
        for (Field field : HistoricalTreeStore.class.getDeclaredFields()) {
            int modifiers = field.getModifiers();
            Class<?> type = field.getType();
            Class<?> part = type.isArray() ? type.getComponentType() : type;
            Checks.due("private " + field, Modifier.isPrivate(modifiers), true);
            Checks.due("numbers or flags " + field, part.isPrimitive(), true);
            if (Modifier.isStatic(modifiers)) {
                Checks.due("constant " + field, Modifier.isFinal(modifiers), true);
                Checks.due("int or long " + field, constants.contains(type), true);
            }
            if (type.isArray()) {
                Checks.due("never assigned anew " + field, Modifier.isFinal(modifiers), true);
            }
        }
    }
}

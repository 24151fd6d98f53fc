import java.lang.reflect.Constructor;
import java.lang.reflect.Field;
import java.lang.reflect.Method;
import java.lang.reflect.Modifier;
import java.util.Arrays;
import java.util.TreeSet;

/** The public face: no member more and none less. */
public final class FaceTest {
    private static final String[] METHODS = {
        "int feed(int,long)", "long out(int)", "int pending(int)", "int waiting(int)", "boolean open(int)",
        "int pass(int)", "int origin(int)", "int arrive(int)", "int upstream(int)", "int queue()",
        "int stored()", "int bytes()", "int tag()", "int clock()"};

    public static void main(String[] args) {
        Kit kit = new Kit();
        TreeSet<String> methods = new TreeSet<>();
        TreeSet<String> hidden = new TreeSet<>();
        for (Method method : EdgeCache.class.getDeclaredMethods()) {
            if (Modifier.isPrivate(method.getModifiers())) {
                hidden.add(method.getName());
            } else {
                methods.add(method.getReturnType() + " " + method.getName() + types(method.getParameterTypes()));
                kit.due("public " + method.getName(), method.getModifiers(), Modifier.PUBLIC);
            }
        }
        kit.due("the methods", methods, new TreeSet<>(Arrays.asList(METHODS)));
        for (String method : METHODS) {
            String name = method.substring(method.indexOf(' ') + 1, method.indexOf('('));
            kit.due("a private " + name, hidden.contains(name), false);
        }
        TreeSet<String> constructors = new TreeSet<>();
        for (Constructor<?> constructor : EdgeCache.class.getDeclaredConstructors()) {
            constructors.add(Modifier.toString(constructor.getModifiers()) + types(constructor.getParameterTypes()));
        }
        kit.due("the constructors", constructors.toString(), "[public(int)]");
        TreeSet<String> fields = new TreeSet<>();
        for (Field field : EdgeCache.class.getDeclaredFields()) {
            if (!Modifier.isPrivate(field.getModifiers())) {
                fields.add(Modifier.toString(field.getModifiers()) + " " + field.getType() + " " + field.getName());
            }
        }
        kit.due("the constants", fields.toString(), "[public static final int NONE]");
        kit.due("NONE", EdgeCache.NONE, -1);
        kit.due("the class", Modifier.toString(EdgeCache.class.getModifiers()), "public final");
        for (Class<?> inside : EdgeCache.class.getDeclaredClasses()) {
            kit.due("static " + inside.getSimpleName(), Modifier.isStatic(inside.getModifiers()), true);
            kit.due("public " + inside.getSimpleName(), Modifier.isPublic(inside.getModifiers()), false);
        }
        kit.end();
    }

    private static String types(Class<?>[] types) {
        StringBuilder text = new StringBuilder("(");
        for (int i = 0; i < types.length; i++) {
            text.append(i > 0 ? "," : "").append(types[i]);
        }
        return text.append(")").toString();
    }
}

import java.lang.reflect.Constructor;
import java.lang.reflect.Field;
import java.lang.reflect.Method;
import java.lang.reflect.Modifier;
import java.util.Set;
import java.util.TreeSet;

/** The class shows the members of the document and no others, and its fields are of the kinds that LANGUAGE.md leaves. */
public final class FaceTest {
    private static final Set<String> FACE = Set.of(
        "points()", "generate(int)", "drop()", "product(int,int)", "size()", "has(int)", "element(int)",
        "length(int)", "letter(int,int)", "longest()", "idempotents()", "units()", "rank(int)", "index(int)",
        "period(int)", "classes(int)", "alike(int,int,int)", "ideal(int,int)", "kernel()", "commutes()");
    private static int wrong = 0;

    private static void must(boolean holds, String what) {
        if (!holds) {
            wrong++;
            System.out.println("does not hold: " + what);
        }
    }

    private static String signature(Method method) {
        StringBuilder types = new StringBuilder();
        for (Class<?> type : method.getParameterTypes()) {
            types.append(types.length() == 0 ? "" : ",").append(type.getName());
        }
        return method.getName() + "(" + types + ")";
    }

    private static void checkMethods() {
        Set<String> shown = new TreeSet<>();
        Set<String> shownNames = new TreeSet<>();
        Set<String> privateNames = new TreeSet<>();
        for (Method method : TransformMonoid.class.getDeclaredMethods()) {
            if (Modifier.isPrivate(method.getModifiers())) {
                privateNames.add(method.getName());
                continue;
            }
            shown.add(signature(method));
            shownNames.add(method.getName());
            must(method.getModifiers() == Modifier.PUBLIC, signature(method) + " is public and nothing else");
            must(method.getReturnType() == int.class, signature(method) + " answers an int");
        }
        must(shown.equals(FACE), "the methods are those of the document; they are " + shown);
        privateNames.retainAll(shownNames);
        must(privateNames.isEmpty(), "no private method bears the name of a public one; these do: " + privateNames);
    }

    private static void checkConstructors() throws NoSuchMethodException {
        Constructor<?> made = TransformMonoid.class.getConstructor(int.class);
        must(Modifier.isPublic(made.getModifiers()), "the constructor is public");
        must(TransformMonoid.class.getDeclaredConstructors().length == 1, "there is one constructor");
    }

    private static void checkFields() {
        for (Field field : TransformMonoid.class.getDeclaredFields()) {
            Class<?> type = field.getType();
            Class<?> number = type.isArray() ? type.getComponentType() : type;
            must(Modifier.isPrivate(field.getModifiers()), field.getName() + " is private");
            must(number.isPrimitive() && number != float.class && number != double.class,
                field.getName() + " is of whole numbers or booleans, in one dimension");
            if (Modifier.isStatic(field.getModifiers())) {
                must(Modifier.isFinal(field.getModifiers()) && (type == int.class || type == long.class),
                    field.getName() + " is a constant of int or long");
            }
        }
    }

    public static void main(String[] args) throws NoSuchMethodException {
        must(TransformMonoid.class.getModifiers() == (Modifier.PUBLIC | Modifier.FINAL), "the class is public and final");
        must(TransformMonoid.class.getSuperclass() == Object.class, "the class extends none");
        must(TransformMonoid.class.getInterfaces().length == 0, "the class implements none");
        must(TransformMonoid.class.getDeclaredClasses().length == 0, "the class has none within it");
        checkMethods();
        checkConstructors();
        checkFields();
        System.out.println(wrong == 0 ? "the face is as due" : wrong + " things are not as due");
        if (wrong != 0) {
            System.exit(1);
        }
    }
}

import java.lang.reflect.Field;
import java.lang.reflect.Method;
import java.lang.reflect.Modifier;
import java.util.ArrayList;
import java.util.Arrays;
import java.util.List;
import java.util.TreeSet;

/** The public face is the document's, to the letter, and there is nothing beside it. */
public final class FaceTest {
    private static final String OUT = "IndexOutOfBoundsException";
    private static final String ARG = "IllegalArgumentException";
    private static final String NOT = "NoSuchElementException";
    private static final String FULL = "IllegalStateException";

    private static final String[] FACE = {
        "int insert(int,int,int,boolean) " + OUT + " " + ARG + " " + FULL,
        "int remove(int,int) " + OUT + " " + NOT + " " + FULL,
        "int note(int,int,int) " + OUT + " " + ARG + " " + NOT + " " + FULL,
        "void move(int,int,int) " + OUT + " " + NOT + " " + FULL,
        "int sync(int,int) " + OUT,
        "int print() " + FULL,
        "int sheets()",
        "int differs(int) " + OUT,
        "int cost()",
        "int lines(int) " + OUT,
        "int lineAt(int,int,int) " + OUT + " " + ARG,
        "int lineAnew(int,int) " + OUT,
        "int noteAt(int,int) " + OUT,
        "int pages(int) " + OUT,
        "int aheadAnew(int,int) " + OUT,
        "int known(int) " + OUT,
    };

    public static void main(String[] args) {
        Class<?> type = Mergeparlour.class;
        Checks.due("class", Modifier.PUBLIC | Modifier.FINAL, type.getModifiers());
        Checks.due("methods", new TreeSet<>(Arrays.asList(FACE)), openMethods(type));
        Checks.due("constants", List.of("public static final int NONE"), openFields(type));
        Checks.due("constructors", "[public Mergeparlour()]", Arrays.toString(type.getDeclaredConstructors()));
        checkClassesInside(type);
        Checks.finish("FaceTest");
    }

    private static TreeSet<String> openMethods(Class<?> type) {
        TreeSet<String> open = new TreeSet<>();
        for (Method method : type.getDeclaredMethods()) {
            if (!Modifier.isPrivate(method.getModifiers())) {
                open.add(told(method));
            }
        }
        return open;
    }

    private static String told(Method method) {
        List<String> parameters = new ArrayList<>();
        for (Class<?> parameter : method.getParameterTypes()) {
            parameters.add(parameter.getSimpleName());
        }
        StringBuilder told = new StringBuilder();
        told.append(method.getReturnType().getSimpleName()).append(' ').append(method.getName());
        told.append('(').append(String.join(",", parameters)).append(')');
        for (Class<?> thrown : method.getExceptionTypes()) {
            told.append(' ').append(thrown.getSimpleName());
        }
        return told.toString();
    }

    private static List<String> openFields(Class<?> type) {
        List<String> open = new ArrayList<>();
        for (Field field : type.getDeclaredFields()) {
            if (!Modifier.isPrivate(field.getModifiers())) {
                open.add(Modifier.toString(field.getModifiers()) + " " + field.getType() + " " + field.getName());
            }
        }
        return open;
    }

    private static void checkClassesInside(Class<?> type) {
        TreeSet<String> face = new TreeSet<>();
        for (Method method : type.getDeclaredMethods()) {
            if (Modifier.isPublic(method.getModifiers())) {
                face.add(method.getName());
            }
        }
        Checks.due("at most some twelve classes", true, type.getDeclaredClasses().length < 12);
        checkPrivateNames(type, face);
        for (Class<?> inside : type.getDeclaredClasses()) {
            int bits = inside.getModifiers();
            Checks.due(inside + " is static", true, Modifier.isStatic(bits));
            Checks.due(inside + " is not open", false, Modifier.isPublic(bits) || Modifier.isProtected(bits));
            checkPrivateNames(inside, face);
        }
    }

    private static void checkPrivateNames(Class<?> type, TreeSet<String> face) {
        int kept = 0;
        for (Method method : type.getDeclaredMethods()) {
            if (!Modifier.isPublic(method.getModifiers())) {
                Checks.due("name of " + method, false, face.contains(method.getName()));
            }
        }
        for (Field field : type.getDeclaredFields()) {
            boolean fixed = Modifier.isStatic(field.getModifiers());
            kept += fixed ? 0 : 1;
            Checks.due(field + " is no static state", true, !fixed || Modifier.isFinal(field.getModifiers()));
        }
        Checks.due("fields of " + type, true, kept <= 20);
    }
}

import java.lang.reflect.Constructor;
import java.lang.reflect.Field;
import java.lang.reflect.Member;
import java.lang.reflect.Method;
import java.lang.reflect.Modifier;
import java.util.Arrays;
import java.util.Set;
import java.util.TreeSet;

/** The public face of the document, and the language rules that show in the compiled class. */
public final class FaceTest {
    private static final Set<String> METHODS = new TreeSet<>(Arrays.asList(
            "int make(int, int, boolean)", "int move(int, int, int)", "int remove(int)",
            "int removeAll(int)", "int extend(int, int)", "int shrink(int)", "int find(int, int)",
            "int entry(int, int)", "int entries(int)", "int parentOf(int)", "int nameOf(int)",
            "int kindOf(int)", "int items()", "int blocks(int)", "int blockAt(int, int)", "int free()"));
    private static final Set<String> CONSTANTS = new TreeSet<>(Arrays.asList(
            "NO_ITEM", "NOT_FOLDER", "BAD_NAME", "NAME_TAKEN", "NO_ROOM", "IS_ROOT", "WOULD_LOOP",
            "NOT_EMPTY", "NOT_FILE", "BAD_LENGTH", "NO_SPACE", "NONE"));
    private static final Set<String> PLAIN = new TreeSet<>(Arrays.asList(
            "int", "long", "short", "byte", "char", "boolean"));
    private static final int MOST_FIELDS = 40;
    private static final int MOST_PARAMETERS = 7;

    private static int wrong = 0;

    public static void main(String[] args) {
        Class<?> face = CatalogStore.class;
        check(face.getPackageName().isEmpty(), "the class has no package");
        check(Modifier.isPublic(face.getModifiers()), "the class is public");
        check(Modifier.isFinal(face.getModifiers()), "the class is final");
        check(face.getSuperclass() == Object.class, "the class extends nothing");
        check(face.getInterfaces().length == 0, "the class implements nothing");
        check(face.getDeclaredClasses().length == 0, "there is no nested class");
        constructors(face);
        methods(face);
        fields(face);
        System.out.println(wrong == 0 ? "the face is as due" : wrong + " parts of the face are not as due");
        if (wrong != 0) {
            System.exit(1);
        }
    }

    private static void check(boolean holds, String rule) {
        if (!holds) {
            wrong++;
            System.out.println("not so: " + rule);
        }
    }

    private static boolean isPublic(Member member) {
        return Modifier.isPublic(member.getModifiers());
    }

    private static boolean isPrivate(Member member) {
        return Modifier.isPrivate(member.getModifiers());
    }

    private static void constructors(Class<?> face) {
        Constructor<?>[] all = face.getDeclaredConstructors();
        check(all.length == 1, "there is one constructor");
        check(isPublic(all[0]) && all[0].getParameterCount() == 0, "it is public and takes nothing");
    }

    private static void methods(Class<?> face) {
        Set<String> found = new TreeSet<>();
        Set<String> publicNames = new TreeSet<>();
        for (Method method : face.getDeclaredMethods()) {
            if (isPublic(method)) {
                found.add(signature(method));
                publicNames.add(method.getName());
                check(!Modifier.isStatic(method.getModifiers()), method.getName() + " is not static");
            }
        }
        check(found.equals(METHODS), "the public methods are " + METHODS + ", found are " + found);
        for (Method method : face.getDeclaredMethods()) {
            String name = method.getName();
            check(isPublic(method) || isPrivate(method), name + " is public or private");
            check(isPublic(method) || !publicNames.contains(name), name + " bears no public name");
            check(method.getParameterCount() <= MOST_PARAMETERS, name + " has few parameters");
            check(!method.getReturnType().isArray(), name + " answers no array");
        }
    }

    private static String signature(Method method) {
        StringBuilder text = new StringBuilder();
        for (Class<?> type : method.getParameterTypes()) {
            text.append(text.length() == 0 ? "" : ", ").append(type.getName());
        }
        return method.getReturnType().getName() + " " + method.getName() + "(" + text + ")";
    }

    private static void fields(Class<?> face) {
        Set<String> found = new TreeSet<>();
        int plainFields = 0;
        for (Field field : face.getDeclaredFields()) {
            String name = field.getName();
            Class<?> type = field.getType();
            check(isPublic(field) || isPrivate(field), name + " is public or private");
            if (isPublic(field)) {
                found.add(name);
                check(type == int.class && Modifier.isStatic(field.getModifiers()), name + " is a constant int");
            }
            if (Modifier.isStatic(field.getModifiers())) {
                check(Modifier.isFinal(field.getModifiers()), name + " is final");
                check(type == int.class || type == long.class, name + " is an int or a long");
            } else {
                plainFields++;
                Class<?> element = type.isArray() ? type.getComponentType() : type;
                check(PLAIN.contains(element.getName()), name + " is of whole numbers or booleans");
            }
        }
        check(found.equals(CONSTANTS), "the constants are " + CONSTANTS + ", found are " + found);
        check(plainFields <= MOST_FIELDS, "there are at most forty fields");
    }
}

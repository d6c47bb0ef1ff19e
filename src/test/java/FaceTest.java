import java.lang.reflect.Constructor;
import java.lang.reflect.Field;
import java.lang.reflect.Method;
import java.lang.reflect.Modifier;
import java.util.Arrays;
import java.util.Set;
import java.util.TreeSet;

/** The class has the document's public face and no more. */
final class FaceTest {
    private static final String[] FACE = {
        "int fill(int,int) IndexOutOfBoundsException,IllegalArgumentException",
        "int dye(int,int,int) IndexOutOfBoundsException,IllegalArgumentException,IllegalStateException",
        "int stir(int) IndexOutOfBoundsException",
        "int capacity(int,int) IndexOutOfBoundsException,IllegalArgumentException",
        "int valve(int,int,int,int,int) IndexOutOfBoundsException,IllegalArgumentException,IllegalStateException",
        "int close(int) IndexOutOfBoundsException",
        "int pipe(int,int) IndexOutOfBoundsException,IllegalArgumentException",
        "int set(int) IllegalArgumentException",
        "int pass(int) IllegalArgumentException,IllegalStateException",
        "int append(int) IllegalArgumentException,IllegalStateException",
        "int clearBuffer() ",
        "int firstError() ",
        "int load() IllegalArgumentException,IllegalStateException",
        "int keep(int) IllegalArgumentException",
        "int goBack(int) IllegalArgumentException,IllegalStateException",
        "int undo() IllegalStateException",
        "int vatOf(int,int) IndexOutOfBoundsException,IllegalArgumentException",
        "int valveOf(int,int) IndexOutOfBoundsException,IllegalArgumentException",
        "int dyeOf(int,int) IndexOutOfBoundsException,IllegalArgumentException",
        "int count(int) IllegalArgumentException",
        "int ifPassed(int,int,int) IndexOutOfBoundsException,IllegalArgumentException",
        "int emptyIn(int) IndexOutOfBoundsException",
        "int round(int) IllegalArgumentException",
        "int mainValve() ",
        "double goneShare() ",
        "long digest() ",
    };

    private FaceTest() { }

    static void run() {
        Check.test("the face's methods", FaceTest::methods);
        Check.test("the face's constant and constructor", FaceTest::constantAndConstructor);
        Check.test("no private method bears a public one's name", FaceTest::privateNames);
    }

    private static void methods() {
        Set<String> got = new TreeSet<>();
        for (Method method : DyeVats.class.getDeclaredMethods()) {
            if (Modifier.isPrivate(method.getModifiers()) || method.isSynthetic()) {
                continue;
            }
            Check.due("is public and nothing else", Modifier.PUBLIC, method.getModifiers());
            got.add(method.getReturnType() + " " + method.getName() + "(" + names(method.getParameterTypes()) + ") "
                + names(method.getExceptionTypes()));
        }
        Check.dueText("the face", new TreeSet<>(Arrays.asList(FACE)).toString(), got.toString());
    }

    private static void constantAndConstructor() {
        Check.due("NONE", -1, DyeVats.NONE);
        Check.due("the class", Modifier.PUBLIC | Modifier.FINAL, DyeVats.class.getModifiers());
        for (Field field : DyeVats.class.getDeclaredFields()) {
            if (!field.getName().equals("NONE") && !field.isSynthetic()) {
                Check.due(field.getName() + " is private", 1, Modifier.isPrivate(field.getModifiers()) ? 1 : 0);
            }
        }
        Constructor<?>[] constructors = DyeVats.class.getDeclaredConstructors();
        Check.due("constructors", 1, constructors.length);
        Check.due("its arguments", 0, constructors[0].getParameterCount());
        Check.due("it is public", Modifier.PUBLIC, constructors[0].getModifiers());
    }

    private static void privateNames() {
        Set<String> face = new TreeSet<>();
        for (Method method : DyeVats.class.getMethods()) {
            face.add(method.getName());
        }
        checkNames(DyeVats.class, face);
        for (Class<?> inside : DyeVats.class.getDeclaredClasses()) {
            checkNames(inside, face);
        }
    }

    private static void checkNames(Class<?> owner, Set<String> face) {
        for (Method method : owner.getDeclaredMethods()) {
            boolean own = owner == DyeVats.class && Modifier.isPublic(method.getModifiers());
            Check.due(owner.getSimpleName() + "." + method.getName(), 0, !own && face.contains(method.getName()) ? 1 : 0);
        }
    }

    private static String names(Class<?>[] classes) {
        StringBuilder names = new StringBuilder();
        for (Class<?> one : classes) {
            names.append(names.length() == 0 ? "" : ",").append(one.getSimpleName());
        }
        return names.toString();
    }
}

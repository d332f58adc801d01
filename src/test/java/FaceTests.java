import java.lang.reflect.Constructor;
import java.lang.reflect.Field;
import java.lang.reflect.Method;
import java.lang.reflect.Modifier;
import java.util.Arrays;
import java.util.Set;
import java.util.TreeSet;

/** The public face is that of the document, with its exceptions, and nothing else. */
public final class FaceTests {
    private static final String[] FACE = {
        "append(int,int,int,int,int) int",
        "at(int,int) int IllegalArgumentException",
        "badEdge() int NoSuchElementException",
        "centre(int,boolean) double IndexOutOfBoundsException",
        "checksum() long",
        "circle(int,int,int,int) int IndexOutOfBoundsException",
        "corner(int) int NoSuchElementException",
        "errorOffset() int",
        "flip(int,int) int IndexOutOfBoundsException IllegalStateException",
        "hit(int,int) int IllegalArgumentException",
        "lift() long",
        "load(int) int IllegalArgumentException",
        "mend(int) int IllegalArgumentException",
        "move(int,int,int) int IndexOutOfBoundsException IllegalArgumentException IllegalStateException",
        "point(int,int) int IndexOutOfBoundsException IllegalArgumentException",
        "put(int,int) int IllegalArgumentException IllegalStateException",
        "roundness(int) int IndexOutOfBoundsException",
        "share() float",
        "state(int) int IllegalArgumentException",
        "take(int) int IndexOutOfBoundsException",
        "tree() long",
        "triangle(int,boolean,int) int IndexOutOfBoundsException IllegalArgumentException",
        "undo() int",
        "why(int,int) int IndexOutOfBoundsException",
    };

    public static void main(String[] args) {
        methods();
        fields();
        classes();
        Check.close("FaceTests");
    }

    private static String names(Class<?>[] types, String between) {
        StringBuilder names = new StringBuilder();
        for (Class<?> type : types) {
            names.append(names.length() == 0 ? "" : between).append(type.getSimpleName());
        }
        return names.toString();
    }

    private static void methods() {
        Set<String> found = new TreeSet<>();
        Set<String> publicNames = new TreeSet<>();
        for (Method method : CircleFlips.class.getDeclaredMethods()) {
            if (!Modifier.isPrivate(method.getModifiers())) {
                found.add((method.getName() + "(" + names(method.getParameterTypes(), ",") + ") "
                        + method.getReturnType().getSimpleName() + " "
                        + names(method.getExceptionTypes(), " ")).trim());
                Check.same(method + " is public", Modifier.isPublic(method.getModifiers()), true);
                Check.same(method + " is static", Modifier.isStatic(method.getModifiers()), false);
                publicNames.add(method.getName());
            }
        }
        Check.same("the methods of the face", found, new TreeSet<>(Arrays.asList(FACE)));
        for (Method method : CircleFlips.class.getDeclaredMethods()) {
            boolean isClash = Modifier.isPrivate(method.getModifiers()) && publicNames.contains(method.getName());
            Check.same("private " + method.getName() + " bears the name of a public one", isClash, false);
        }
    }

    private static void fields() {
        for (Field field : CircleFlips.class.getDeclaredFields()) {
            int modifiers = field.getModifiers();
            boolean isConstant = Modifier.isStatic(modifiers) && Modifier.isFinal(modifiers);
            Check.same(field + " is private or a constant", Modifier.isPrivate(modifiers) || isConstant, true);
            Check.same(field + " is no static state", Modifier.isStatic(modifiers) && !isConstant, false);
        }
        Check.same("the public constants", CircleFlips.class.getFields().length, 5);
        Check.same("SYNTAX_ERROR", CircleFlips.SYNTAX_ERROR, -2);
        Check.same("OUT_OF_RANGE", CircleFlips.OUT_OF_RANGE, -3);
        Check.same("TAKEN", CircleFlips.TAKEN, -4);
        Check.same("TOO_MANY", CircleFlips.TOO_MANY, -5);
        Check.same("REFUSED", CircleFlips.REFUSED, -6);
    }

    private static void classes() {
        Check.same("public and final", CircleFlips.class.getModifiers(), Modifier.PUBLIC | Modifier.FINAL);
        Constructor<?>[] constructors = CircleFlips.class.getDeclaredConstructors();
        Check.same("constructors", constructors.length, 1);
        Check.same("the constructor's modifiers", constructors[0].getModifiers(), Modifier.PUBLIC);
        for (Class<?> inside : CircleFlips.class.getDeclaredClasses()) {
            Check.same(inside + " is public", Modifier.isPublic(inside.getModifiers()), false);
            Check.same(inside + " is static", Modifier.isStatic(inside.getModifiers()), true);
        }
    }
}

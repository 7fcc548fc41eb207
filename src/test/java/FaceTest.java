import java.lang.reflect.Constructor;
import java.lang.reflect.Field;
import java.lang.reflect.Method;
import java.lang.reflect.Modifier;
import java.util.ArrayList;
import java.util.Arrays;
import java.util.List;
import java.util.TreeSet;

/** The class has the face that the document tells, and nothing else that can be seen. */
public final class FaceTest {
    private static final String[] METHODS = {
        "int append(int, int, int, int, int)",
        "int load(int) IllegalArgumentException",
        "int errorOffset()",
        "int state(int) IllegalArgumentException",
        "int find(int) IllegalArgumentException",
        "int plate(int, int) IndexOutOfBoundsException IllegalArgumentException",
        "int cell(int, int, int, int) IndexOutOfBoundsException IllegalArgumentException",
        "int tone(int, int) IndexOutOfBoundsException",
        "int inks(int, int) IndexOutOfBoundsException",
        "int why(int, int, int) IndexOutOfBoundsException",
        "int off(int, int) IndexOutOfBoundsException NoSuchElementException",
        "float covered(int) IndexOutOfBoundsException",
        "double moire(int, int) IndexOutOfBoundsException",
        "int worst(boolean)",
        "int bestTurn(int) IndexOutOfBoundsException",
        "int copies()",
        "int cellsWith(int) IllegalArgumentException",
        "int paint(int, int, int, int, int) IndexOutOfBoundsException IllegalArgumentException",
        "int turn(int, int, int) IndexOutOfBoundsException IllegalArgumentException",
        "int shape(int, int) IndexOutOfBoundsException IllegalArgumentException",
        "int shift(int, int, int) IndexOutOfBoundsException IllegalArgumentException",
        "int limit(int) IllegalArgumentException",
        "int clean(int) IndexOutOfBoundsException",
        "int dirty(int) IndexOutOfBoundsException",
        "int fill(int, int) IndexOutOfBoundsException IllegalArgumentException",
        "int press(int) IllegalArgumentException IllegalStateException",
        "int undo()",
        "long checksum()",
    };

    public static void main(String[] args) {
        Check.same("the methods", new TreeSet<>(Arrays.asList(METHODS)), FaceTest::visibleMethods);
        Check.same("the constants", List.of(-2, -3, -4, -5, -6), () -> List.of(TonePlates.SYNTAX_ERROR,
                TonePlates.OUT_OF_RANGE, TonePlates.NAME_ERROR, TonePlates.TOO_MANY, TonePlates.TOO_DEEP));
        Check.same("the fields that can be seen", 5, FaceTest::visibleFields);
        Constructor<?>[] constructors = TonePlates.class.getDeclaredConstructors();
        Check.same("constructors", 1, () -> constructors.length);
        Check.same("the constructor", true, () -> Modifier.isPublic(constructors[0].getModifiers()));
        Check.same("parameters of the constructor", 0, () -> constructors[0].getParameterCount());
        Check.same("the class is final", true, () -> Modifier.isFinal(TonePlates.class.getModifiers()));
        for (Class<?> inside : TonePlates.class.getDeclaredClasses()) {
            Check.same(inside.getName() + " can be seen", false,
                    () -> Modifier.isPublic(inside.getModifiers()) || Modifier.isProtected(inside.getModifiers()));
        }
        noPrivateMethodHasAPublicName();
        Check.end("FaceTest");
    }

    private static TreeSet<String> visibleMethods() {
        TreeSet<String> all = new TreeSet<>();
        for (Method method : TonePlates.class.getDeclaredMethods()) {
            if (!Modifier.isPrivate(method.getModifiers())) {
                all.add(told(method));
            }
        }
        return all;
    }

    private static String told(Method method) {
        List<String> parameters = new ArrayList<>();
        for (Class<?> parameter : method.getParameterTypes()) {
            parameters.add(parameter.getSimpleName());
        }
        StringBuilder all = new StringBuilder(method.getReturnType().getSimpleName());
        all.append(" ").append(method.getName()).append("(").append(String.join(", ", parameters)).append(")");
        for (Class<?> thrown : method.getExceptionTypes()) {
            all.append(" ").append(thrown.getSimpleName());
        }
        return all.toString();
    }

    private static int visibleFields() {
        int count = 0;
        for (Field field : TonePlates.class.getDeclaredFields()) {
            count += Modifier.isPrivate(field.getModifiers()) ? 0 : 1;
        }
        return count;
    }

    private static void noPrivateMethodHasAPublicName() {
        List<String> names = new ArrayList<>();
        List<Class<?>> all = new ArrayList<>(Arrays.asList(TonePlates.class.getDeclaredClasses()));
        for (String method : METHODS) {
            names.add(method.substring(method.indexOf(' ') + 1, method.indexOf('(')));
        }
        for (Class<?> inside : all) {
            for (Method method : inside.getDeclaredMethods()) {
                Check.same(inside.getName() + "." + method.getName() + ", private, has a public name", false,
                        () -> Modifier.isPrivate(method.getModifiers()) && names.contains(method.getName()));
            }
        }
        Check.same("methods of TonePlates with a public name", METHODS.length,
                () -> (int) Arrays.stream(TonePlates.class.getDeclaredMethods())
                        .filter(method -> names.contains(method.getName())).count());
    }
}

import java.lang.reflect.Constructor;
import java.lang.reflect.Field;
import java.lang.reflect.Method;
import java.lang.reflect.Modifier;
import java.util.ArrayList;
import java.util.Collections;
import java.util.List;

/** The public face is the document's, with what each method says that it throws, and nothing more. */
public final class FaceTest {
    private static final String[] METHODS = {
        "int write(long)", "int wipe()",
        "void read(int) throws IllegalArgumentException IllegalStateException ArithmeticException",
        "void put(int long int) throws IllegalArgumentException ArithmeticException",
        "void add(int int int boolean) throws IllegalArgumentException ArithmeticException",
        "void multiply(int int int) throws IllegalArgumentException ArithmeticException",
        "void divide(int int int int int) throws IllegalArgumentException ArithmeticException",
        "void quotient(int int int int int) throws IllegalArgumentException ArithmeticException",
        "void remainder(int int int) throws IllegalArgumentException ArithmeticException",
        "void power(int int int) throws IllegalArgumentException ArithmeticException",
        "void root(int int int int) throws IllegalArgumentException ArithmeticException",
        "void toScale(int int int int) throws IllegalArgumentException ArithmeticException",
        "void round(int int int int) throws IllegalArgumentException ArithmeticException",
        "void strip(int int) throws IllegalArgumentException ArithmeticException",
        "void shift(int int int) throws IllegalArgumentException ArithmeticException",
        "void negate(int int) throws IllegalArgumentException",
        "int compare(int int) throws IllegalArgumentException",
        "int told(int int) throws IllegalArgumentException IndexOutOfBoundsException",
        "int written(int int) throws IllegalArgumentException", "int character(int)",
    };

    private FaceTest() {
    }

    public static void main(String[] args) {
        Check check = new Check();
        Class<?> face = DecimalDesk.class;
        check.due("the class", Modifier.toString(face.getModifiers()), "public final");
        List<String> methods = new ArrayList<>();
        for (Method method : face.getDeclaredMethods()) {
            if (!Modifier.isPrivate(method.getModifiers())) {
                check.due(method.getName(), Modifier.toString(method.getModifiers()), "public");
                methods.add(spelled(method));
            }
        }
        List<String> due = new ArrayList<>(List.of(METHODS));
        Collections.sort(methods);
        Collections.sort(due);
        check.due("the methods", methods, due);
        for (Constructor<?> constructor : face.getDeclaredConstructors()) {
            check.due("the constructor", constructor.toString(), "public DecimalDesk()");
        }
        for (Field field : face.getDeclaredFields()) {
            if (!Modifier.isPrivate(field.getModifiers())) {
                check.due("the constant", field.toString(), "public static final int DecimalDesk.NONE");
            }
        }
        check.finish();
    }

    private static String spelled(Method method) {
        StringBuilder text = new StringBuilder();
        text.append(method.getReturnType()).append(' ').append(method.getName());
        text.append('(').append(names(method.getParameterTypes())).append(')');
        if (method.getExceptionTypes().length > 0) {
            text.append(" throws ").append(names(method.getExceptionTypes()));
        }
        return text.toString();
    }

    private static String names(Class<?>[] types) {
        List<String> names = new ArrayList<>();
        for (Class<?> type : types) {
            names.add(type.getSimpleName());
        }
        return String.join(" ", names);
    }
}

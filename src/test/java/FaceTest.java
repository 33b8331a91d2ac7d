import java.io.IOException;
import java.lang.reflect.Constructor;
import java.lang.reflect.Field;
import java.lang.reflect.Method;
import java.lang.reflect.Modifier;
import java.nio.file.Files;
import java.nio.file.Path;
import java.util.ArrayList;
import java.util.Collections;
import java.util.List;

/** The public face is the document's, with what each method says that it throws, and nothing more. */
public final class FaceTest {
    private static final String[] METHODS = {
        "int write(long)", "int wipe()",
        "void read(int) throws IllegalArgumentException IllegalStateException ArithmeticException",
        "void put(int long int) throws IllegalArgumentException ArithmeticException",
        "void add(int int int boolean) throws IllegalArgumentException ArithmeticException",
        "void multiply(int int int) throws IllegalArgumentException ArithmeticException",
        "void divide(int int int int int) throws IllegalArgumentException ArithmeticException",
        "void quotient(int int int int int) throws IllegalArgumentException ArithmeticException",
        "void remainder(int int int) throws IllegalArgumentException ArithmeticException",
        "void power(int int int) throws IllegalArgumentException ArithmeticException",
        "void root(int int int int) throws IllegalArgumentException ArithmeticException",
        "void toScale(int int int int) throws IllegalArgumentException ArithmeticException",
        "void round(int int int int) throws IllegalArgumentException ArithmeticException",
        "void strip(int int) throws IllegalArgumentException ArithmeticException",
        "void shift(int int int) throws IllegalArgumentException ArithmeticException",
        "void negate(int int) throws IllegalArgumentException",
        "int compare(int int) throws IllegalArgumentException",
        "int told(int int) throws IllegalArgumentException IndexOutOfBoundsException",
        "int written(int int) throws IllegalArgumentException", "int character(int)",
    };

    private static final Path DOCUMENT = Path.of("..", "shared", "DOC.md");
    private static final Path SOURCE = Path.of("src", "main", "java", "DecimalDesk.java");

    private FaceTest() {
    }

    public static void main(String[] args) throws IOException, ReflectiveOperationException {
        Check check = new Check();
        members(check);
        check.due("the value of NONE", DecimalDesk.class.getField("NONE").getInt(null), -1);
        if (Files.exists(DOCUMENT)) {
            lines(check, Files.readString(DOCUMENT), Files.readString(SOURCE));
        }
        check.finish();
    }

    /** Each line of the document's code block stands in the source, with the names of its parameters. */
    private static void lines(Check check, String document, String source) {
        String section = document.substring(document.indexOf("## The public face"));
        String[] block = section.substring(section.indexOf("```java\n") + 8).split("```")[0].split("\n");
        check.due("the lines of the face", block.length, METHODS.length + 4);
        for (String line : block) {
            String written = line.contains("(") ? line.replace(";", " {") : line;
            check.due("the source has: " + written, source.contains("\n" + written + "\n"), true);
        }
    }

    private static void members(Check check) {
        Class<?> face = DecimalDesk.class;
        check.due("the class", Modifier.toString(face.getModifiers()), "public final");
        List<String> methods = new ArrayList<>();
        for (Method method : face.getDeclaredMethods()) {
            if (!Modifier.isPrivate(method.getModifiers())) {
                check.due(method.getName(), Modifier.toString(method.getModifiers()), "public");
                methods.add(spelled(method));
            }
        }
        List<String> due = new ArrayList<>(List.of(METHODS));
        Collections.sort(methods);
        Collections.sort(due);
        check.due("the methods", methods, due);
        for (Constructor<?> constructor : face.getDeclaredConstructors()) {
            check.due("the constructor", constructor.toString(), "public DecimalDesk()");
        }
        for (Field field : face.getDeclaredFields()) {
            if (!Modifier.isPrivate(field.getModifiers())) {
                check.due("the constant", field.toString(), "public static final int DecimalDesk.NONE");
            }
        }
    }

    private static String spelled(Method method) {
        StringBuilder text = new StringBuilder();
        text.append(method.getReturnType()).append(' ').append(method.getName());
        text.append('(').append(names(method.getParameterTypes())).append(')');
        if (method.getExceptionTypes().length > 0) {
            text.append(" throws ").append(names(method.getExceptionTypes()));
        }
        return text.toString();
    }

    private static String names(Class<?>[] types) {
        List<String> names = new ArrayList<>();
        for (Class<?> type : types) {
            names.add(type.getSimpleName());
        }
        return String.join(" ", names);
    }
}

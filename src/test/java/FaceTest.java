import java.lang.reflect.Constructor;
import java.lang.reflect.Field;
import java.lang.reflect.Member;
import java.lang.reflect.Method;
import java.lang.reflect.Modifier;
import java.util.Arrays;
import java.util.Set;
import java.util.TreeSet;

/** The public face is the document's, and nothing else of the class can be seen. */
public final class FaceTest {
    private static final Set<String> DUE = new TreeSet<>(Arrays.asList(
            "NONE", "DirectivePrinter()",
            "int write(int, long) IllegalArgumentException",
            "int wipe()", "int clear()", "int nothing()", "int truth(boolean)",
            "int symbol(int) IllegalArgumentException",
            "int whole(int, long) IllegalArgumentException",
            "int text() IllegalStateException",
            "int decimal(long, int) IllegalArgumentException",
            "int print()", "int printed(int)", "int fault()", "int place()"));

    public static void main(String[] args) {
        Class<?> face = DirectivePrinter.class;
        Set<String> seen = new TreeSet<>();
        for (Field field : face.getDeclaredFields()) {
            if (isSeen(field)) {
                seen.add(field.getName());
            }
        }
        for (Constructor<?> constructor : face.getDeclaredConstructors()) {
            if (isSeen(constructor)) {
                seen.add("DirectivePrinter" + list(constructor.getParameterTypes(), "(", ")"));
            }
        }
        for (Method method : face.getDeclaredMethods()) {
            if (isSeen(method)) {
                seen.add(method.getReturnType() + " " + method.getName()
                        + list(method.getParameterTypes(), "(", ")") + list(method.getExceptionTypes(), " ", ""));
            }
        }
        Check.due("the members that can be seen", seen, DUE);
        Check.due("the class is public and final", face.getModifiers(), Modifier.PUBLIC | Modifier.FINAL);
        Check.due("NONE", DirectivePrinter.NONE, -1);
        Check.end();
    }

    private static boolean isSeen(Member member) {
        return !Modifier.isPrivate(member.getModifiers());
    }

    private static String list(Class<?>[] types, String open, String close) {
        if (types.length == 0 && close.isEmpty()) {
            return "";
        }
        StringBuilder names = new StringBuilder(open);
        for (Class<?> type : types) {
            names.append(names.length() == open.length() ? "" : ", ").append(type.getSimpleName());
        }
        return names.append(close).toString();
    }
}

import java.lang.reflect.Constructor;
import java.lang.reflect.Executable;
import java.lang.reflect.Field;
import java.lang.reflect.Method;
import java.lang.reflect.Modifier;
import java.util.Set;
import java.util.TreeSet;
import java.util.stream.Collectors;
import java.util.stream.Stream;

/** The public face is the code block of the document, line for line, and nothing else of the class can be seen. */
public final class FaceTest {
    private static final Class<?> FACE = DirectivePrinter.class;

    public static void main(String[] args) {
        Check.due("the members that can be seen", seenMembers(), dueMembers());
        Check.due("the members that the document has", dueMembers().size(), 15);
        Check.due("the class", Modifier.toString(FACE.getModifiers()) + " class " + FACE.getSimpleName(), dueClass());
        Check.due("NONE", DirectivePrinter.NONE, -1);
        Check.due("private methods with a public one's name", privateNamesakes(), new TreeSet<String>());
        for (Class<?> inside : FACE.getDeclaredClasses()) {
            int modifiers = inside.getModifiers();
            Check.due(inside + " is static, and seen from here alone",
                    Modifier.isStatic(modifiers) && !Modifier.isPublic(modifiers) && !Modifier.isProtected(modifiers),
                    true);
        }
        Check.end();
    }

    private static Stream<String> linesOfTheDocument() {
        return Sentence.section("The public face").lines().map(String::trim).filter(line -> line.startsWith("public "));
    }

    private static String dueClass() {
        return linesOfTheDocument().findFirst().orElse("none").replace(" {", "");
    }

    /** Without the parameters' names, which reflection does not know, and without the values of constants. */
    private static Set<String> dueMembers() {
        return linesOfTheDocument().skip(1)
                .map(line -> line.replaceAll("(int|long|boolean) \\w+(?=[,)])", "$1").replaceAll("( = .*)?;$", ""))
                .collect(Collectors.toCollection(TreeSet::new));
    }

    private static Set<String> seenMembers() {
        Set<String> seen = new TreeSet<>();
        for (Field field : FACE.getDeclaredFields()) {
            if (!Modifier.isPrivate(field.getModifiers())) {
                seen.add(Modifier.toString(field.getModifiers()) + " " + field.getType() + " " + field.getName());
            }
        }
        for (Constructor<?> constructor : FACE.getDeclaredConstructors()) {
            if (!Modifier.isPrivate(constructor.getModifiers())) {
                seen.add(told(constructor, FACE.getSimpleName()));
            }
        }
        for (Method method : FACE.getDeclaredMethods()) {
            if (!Modifier.isPrivate(method.getModifiers())) {
                seen.add(told(method, method.getReturnType() + " " + method.getName()));
            }
        }
        return seen;
    }

    private static String told(Executable member, String name) {
        String thrown = names(member.getExceptionTypes());
        return Modifier.toString(member.getModifiers()) + " " + name + "(" + names(member.getParameterTypes()) + ")"
                + (thrown.isEmpty() ? "" : " throws " + thrown);
    }

    private static String names(Class<?>[] types) {
        return Stream.of(types).map(Class::getSimpleName).collect(Collectors.joining(", "));
    }

    private static Set<String> privateNamesakes() {
        Set<String> namesakes = new TreeSet<>();
        for (Method method : FACE.getMethods()) {
            for (Method other : FACE.getDeclaredMethods()) {
                if (Modifier.isPrivate(other.getModifiers()) && other.getName().equals(method.getName())) {
                    namesakes.add(other.getName());
                }
            }
        }
        return namesakes;
    }
}

import java.lang.reflect.Constructor;
import java.lang.reflect.Field;
import java.lang.reflect.Method;
import java.lang.reflect.Modifier;
import java.util.Arrays;
import java.util.Set;
import java.util.TreeSet;

/** The public face, and what LANGUAGE.md asks of the members. */
final class FaceTest {
    private static final String[] FACE = {
        "int setRoom(int int int) IndexOutOfBoundsException IllegalArgumentException",
        "int setGroup(int int) IndexOutOfBoundsException IllegalArgumentException",
        "int setTeacher(int int) IndexOutOfBoundsException IllegalArgumentException",
        "int setWeight(int int) IndexOutOfBoundsException IllegalArgumentException",
        "int setting(int int) IllegalArgumentException IndexOutOfBoundsException",
        "int append(int) IllegalArgumentException IllegalStateException",
        "int addEvent() IllegalArgumentException IllegalStateException",
        "int errorPosition()",
        "int removeEvent(int) IndexOutOfBoundsException",
        "int split(int int) IndexOutOfBoundsException IllegalArgumentException IllegalStateException",
        "int event(int int) IndexOutOfBoundsException IllegalArgumentException",
        "int describe(int int) IndexOutOfBoundsException",
        "int place(int int) IndexOutOfBoundsException UnsupportedOperationException IllegalStateException",
        "int unplace(int) IndexOutOfBoundsException IllegalStateException",
        "boolean fix(int boolean) IndexOutOfBoundsException IllegalStateException",
        "int obstacle(int int) IndexOutOfBoundsException",
        "int places(int int) IndexOutOfBoundsException IllegalArgumentException",
        "int free(int int) IndexOutOfBoundsException NoSuchElementException",
        "int hindering(int int) IndexOutOfBoundsException",
        "int at(int int) IndexOutOfBoundsException NoSuchElementException",
        "int taken(int int) IllegalArgumentException IndexOutOfBoundsException",
        "int insert(int) IndexOutOfBoundsException IllegalStateException UnsupportedOperationException",
        "int build()",
        "int exchange(int int) IndexOutOfBoundsException IllegalStateException UnsupportedOperationException",
        "int chain(int int) IndexOutOfBoundsException IllegalStateException",
        "int improve(int) IllegalArgumentException",
        "int cost(int) IllegalArgumentException",
        "int costAt(int int) IndexOutOfBoundsException IllegalStateException",
        "int mark()",
        "int changed()",
        "int marked(int) IndexOutOfBoundsException",
        "int count(int) IllegalArgumentException",
        "int undo() IllegalStateException",
        "int save()",
        "int restore() IllegalStateException",
    };

    public static void main(String[] args) {
        Class<?> type = TimetableBuilder.class;
        Check.due("public and final", true,
            Modifier.isPublic(type.getModifiers()) && Modifier.isFinal(type.getModifiers()));
        methods(type);
        for (Constructor<?> one : type.getDeclaredConstructors()) {
            Check.due("the public constructor", true,
                Modifier.isPublic(one.getModifiers()) && one.getParameterCount() == 0);
        }
        fields(type);
        for (Class<?> inner : type.getDeclaredClasses()) {
            Check.due(inner + " is static", true, Modifier.isStatic(inner.getModifiers()));
            Check.due(inner + " is not public", false,
                Modifier.isPublic(inner.getModifiers()) || Modifier.isProtected(inner.getModifiers()));
            fields(inner);
        }
        Check.due("few classes", true, type.getDeclaredClasses().length <= 11);
        Check.end();
    }

    private static void methods(Class<?> type) {
        Set<String> got = new TreeSet<>();
        Set<String> names = new TreeSet<>();
        Set<String> hidden = new TreeSet<>();
        for (Method method : type.getDeclaredMethods()) {
            if (Modifier.isPrivate(method.getModifiers()) || method.isSynthetic()) {
                hidden.add(method.getName());
            } else {
                got.add(signature(method));
                names.add(method.getName());
                Check.due(method + " is public", true, Modifier.isPublic(method.getModifiers()));
            }
            Check.due(method + " has few parameters", true, method.getParameterCount() <= 7);
        }
        Check.same("the face", new TreeSet<>(Arrays.asList(FACE)).toString(), got.toString());
        hidden.retainAll(names);
        Check.same("private methods with a public name", "[]", hidden.toString());
    }

    private static String signature(Method method) {
        StringBuilder text = new StringBuilder();
        text.append(method.getReturnType().getSimpleName()).append(' ').append(method.getName()).append('(');
        for (Class<?> parameter : method.getParameterTypes()) {
            text.append(text.charAt(text.length() - 1) == '(' ? "" : " ").append(parameter.getSimpleName());
        }
        text.append(')');
        for (Class<?> exception : method.getExceptionTypes()) {
            text.append(' ').append(exception.getSimpleName());
        }
        return text.toString();
    }

    private static void fields(Class<?> type) {
        int own = 0;
        for (Field field : type.getDeclaredFields()) {
            boolean fixed = Modifier.isStatic(field.getModifiers());
            own += fixed ? 0 : 1;
            Check.due(field + " is a constant if static", true, !fixed || Modifier.isFinal(field.getModifiers()));
            Check.due(field + " is not of the face", true,
                type != TimetableBuilder.class || Modifier.isPrivate(field.getModifiers()));
        }
        Check.due(type + " has few fields", true, own <= 20);
    }
}

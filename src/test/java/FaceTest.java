import java.lang.reflect.Constructor;
import java.lang.reflect.Field;
import java.lang.reflect.Method;
import java.lang.reflect.Modifier;
import java.util.ArrayList;
import java.util.Collections;
import java.util.List;

/** The class shows the document's face and nothing else. */
public final class FaceTest {
    private static final String[] FACE = {
        "int feed(int,int,int,int,int)",
        "boolean end(int)",
        "int man(int) IllegalArgumentException UnsupportedOperationException",
        "int ship() UnsupportedOperationException",
        "int hatch(int,int,int,boolean) IndexOutOfBoundsException IllegalArgumentException UnsupportedOperationException",
        "int agree() IllegalArgumentException",
        "int fault()",
        "int says(int) NoSuchElementException",
        "int call(int,int) IllegalArgumentException",
        "int look(int,int) IndexOutOfBoundsException NoSuchElementException",
        "int tons(int,int) IndexOutOfBoundsException",
        "int state(int,int) IndexOutOfBoundsException NoSuchElementException",
        "int entry(int,int) IndexOutOfBoundsException NoSuchElementException",
        "boolean rule(int,int) IndexOutOfBoundsException IllegalArgumentException",
        "int earned(int,int,int) IndexOutOfBoundsException",
        "int want(int,int) IllegalArgumentException",
        "int unwant()",
        "int plan(int) IllegalArgumentException",
        "int count(int)",
    };

    public static void main(String[] args) {
        Check check = new Check("the face");
        check.is("public and final", true,
                Modifier.isPublic(DockCall.class.getModifiers()) && Modifier.isFinal(DockCall.class.getModifiers()));
        List<String> due = new ArrayList<>(List.of(FACE));
        Collections.sort(due);
        check.same("methods", due, methodsThatShow());
        check.same("fields", List.of("NONE"), fieldsThatShow());
        check.is("NONE", -1, DockCall.NONE);
        Constructor<?>[] constructors = DockCall.class.getDeclaredConstructors();
        check.is("constructors", 1, constructors.length);
        check.same("constructor", "public DockCall()", constructors[0].toString());
        nestedClasses(check);
        check.end();
    }

    private static List<String> methodsThatShow() {
        List<String> shown = new ArrayList<>();
        for (Method method : DockCall.class.getDeclaredMethods()) {
            if (!Modifier.isPrivate(method.getModifiers())) {
                shown.add(describe(method));
            }
        }
        Collections.sort(shown);
        return shown;
    }

    private static String describe(Method method) {
        StringBuilder text = new StringBuilder(method.getReturnType().getSimpleName());
        text.append(' ').append(method.getName()).append('(');
        for (int i = 0; i < method.getParameterCount(); i++) {
            text.append(i == 0 ? "" : ",").append(method.getParameterTypes()[i].getSimpleName());
        }
        text.append(')');
        for (Class<?> thrown : method.getExceptionTypes()) {
            text.append(' ').append(thrown.getSimpleName());
        }
        return text.toString();
    }

    private static List<String> fieldsThatShow() {
        List<String> shown = new ArrayList<>();
        for (Field field : DockCall.class.getDeclaredFields()) {
            if (!Modifier.isPrivate(field.getModifiers())) {
                shown.add(field.getName());
            }
        }
        return shown;
    }

    /** Rule 1 of the language: classes inside are static and not public, and no private method has a face's name. */
    private static void nestedClasses(Check check) {
        List<String> names = new ArrayList<>();
        for (String method : FACE) {
            names.add(method.substring(method.indexOf(' ') + 1, method.indexOf('(')));
        }
        for (Class<?> inside : DockCall.class.getDeclaredClasses()) {
            int modifiers = inside.getModifiers();
            check.is(inside.getName() + " is static and not public", true, Modifier.isStatic(modifiers)
                    && !Modifier.isPublic(modifiers) && !Modifier.isProtected(modifiers));
            for (Method method : inside.getDeclaredMethods()) {
                check.is(inside.getName() + " has " + method.getName(), false, names.contains(method.getName()));
            }
            check.is(inside.getName() + " has at most twenty fields", true, ownFields(inside) <= 20);
        }
    }

    private static int ownFields(Class<?> inside) {
        int own = 0;
        for (Field field : inside.getDeclaredFields()) {
            if (!Modifier.isStatic(field.getModifiers())) {
                own++;
            }
        }
        return own;
    }
}

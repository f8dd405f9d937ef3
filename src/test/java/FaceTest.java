import java.lang.reflect.Constructor;
import java.lang.reflect.Field;
import java.lang.reflect.Method;
import java.lang.reflect.Modifier;
import java.util.ArrayList;
import java.util.Collections;
import java.util.List;

/** The class shows the document's face and nothing else, and has no state of its own that all objects share. */
public final class FaceTest {
    private static final String[] FACE = {
        "boolean cut(int)",
        "boolean give(long,int)",
        "boolean poke(int,int)",
        "boolean turnOver()",
        "int byteAt(int,boolean)",
        "int change(int,int,int,int)",
        "int code(int,int,int)",
        "int function(int,int)",
        "int handler(int,int,int)",
        "int look(int)",
        "int read()",
        "int write()",
    };

    public static void main(String[] args) {
        Class<?> face = StackBytes.class;
        Check.due("public", Modifier.isPublic(face.getModifiers()), true);
        Check.due("final", Modifier.isFinal(face.getModifiers()), true);
        methods(face);
        constructors(face);
        fields(face);
        nested(face);
        Check.end();
    }

    private static void methods(Class<?> face) {
        List<String> found = new ArrayList<>();
        for (Method method : face.getDeclaredMethods()) {
            if (Modifier.isPrivate(method.getModifiers())) {
                continue;
            }
            Check.due(method.getName() + " is public", Modifier.isPublic(method.getModifiers()), true);
            Check.due(method.getName() + " is not static", Modifier.isStatic(method.getModifiers()), false);
            StringBuilder text = new StringBuilder();
            text.append(method.getReturnType()).append(' ').append(method.getName()).append('(');
            for (int k = 0; k < method.getParameterCount(); k++) {
                text.append(k == 0 ? "" : ",").append(method.getParameterTypes()[k]);
            }
            found.add(text.append(')').toString());
        }
        Collections.sort(found);
        Check.due("methods " + found, found.equals(List.of(FACE)), true);
    }

    private static void constructors(Class<?> face) {
        Constructor<?>[] found = face.getDeclaredConstructors();
        Check.due("constructors", found.length, 1);
        Check.due("without parameters", found[0].getParameterCount(), 0);
        Check.due("public constructor", Modifier.isPublic(found[0].getModifiers()), true);
    }

    private static void fields(Class<?> face) {
        for (Field field : face.getDeclaredFields()) {
            boolean isNone = field.getName().equals("NONE");
            Check.due(field + " is private", Modifier.isPrivate(field.getModifiers()), !isNone);
            if (isNone) {
                Check.due("NONE is public", Modifier.isPublic(field.getModifiers()), true);
                Check.due("NONE is static", Modifier.isStatic(field.getModifiers()), true);
                Check.due("NONE is an int", field.getType() == int.class, true);
            }
            staticIsFinal(field);
        }
    }

    private static void nested(Class<?> face) {
        Class<?>[] found = face.getDeclaredClasses();
        Check.due("some twelve classes at most", found.length < 12, true);
        for (Class<?> inside : found) {
            Check.due(inside + " is private", Modifier.isPrivate(inside.getModifiers()), true);
            Check.due(inside + " is static", Modifier.isStatic(inside.getModifiers()), true);
            for (Field field : inside.getDeclaredFields()) {
                staticIsFinal(field);
            }
            for (Method method : inside.getDeclaredMethods()) {
                for (String known : FACE) {
                    boolean same = known.contains(' ' + method.getName() + '(');
                    Check.due(method + " has a name of its own", same, false);
                }
            }
        }
    }

    private static void staticIsFinal(Field field) {
        if (Modifier.isStatic(field.getModifiers())) {
            Check.due(field + " is final", Modifier.isFinal(field.getModifiers()), true);
        }
    }
}

import java.io.IOException;
import java.lang.reflect.Constructor;
import java.lang.reflect.Field;
import java.lang.reflect.Method;
import java.lang.reflect.Modifier;
import java.util.Arrays;
import java.util.List;
import java.util.TreeSet;

/** The public face: the constant, the constructor and the methods of the document, and no other. */
public final class FaceTest {
    public static void main(String[] args) throws IOException {
        Class<?> face = MatchingGraph.class;
        Check.due("the class is public and final", face.getModifiers(), Modifier.PUBLIC | Modifier.FINAL);
        Check.due("NONE", MatchingGraph.NONE, -1);
        TreeSet<String> fields = new TreeSet<>();
        for (Field field : face.getDeclaredFields()) {
            if (!Modifier.isPrivate(field.getModifiers())) {
                fields.add(field.toString());
            }
        }
        Check.due("fields", fields.toString(), "[public static final int MatchingGraph.NONE]");
        for (Constructor<?> constructor : face.getDeclaredConstructors()) {
            Check.due("constructor", constructor.toString(), "public MatchingGraph()");
        }
        methods(face);
        for (Class<?> inside : face.getDeclaredClasses()) {
            int modifiers = inside.getModifiers();
            Check.due(inside + " is static and not public", Modifier.isStatic(modifiers)
                    && !Modifier.isPublic(modifiers) && !Modifier.isProtected(modifiers), true);
        }
        Check.end("FaceTest");
    }

    private static void methods(Class<?> face) throws IOException {
        TreeSet<String> seen = new TreeSet<>();
        TreeSet<String> names = new TreeSet<>();
        TreeSet<String> hidden = new TreeSet<>();
        for (Method method : face.getDeclaredMethods()) {
            if (Modifier.isPrivate(method.getModifiers())) {
                hidden.add(method.getName());
            } else {
                Check.due(method + " is public", Modifier.isPublic(method.getModifiers()), true);
                Check.due(method + " is of an object", Modifier.isStatic(method.getModifiers()), false);
                seen.add(method.getReturnType() + " " + method.getName() + names(method.getParameterTypes())
                        + " throws " + names(method.getExceptionTypes()));
                names.add(method.getName());
            }
        }
        TreeSet<String> due = new TreeSet<>();
        for (DocFace.Call call : DocFace.calls()) {
            due.add(call.type() + " " + call.name() + call.types() + " throws " + call.exceptions());
        }
        Check.due("the document shows so many calls", due.size(), 26);
        Check.due("methods", seen, due);
        hidden.retainAll(names);
        Check.due("private methods with a public name", hidden.toString(), "[]");
    }

    private static List<String> names(Class<?>[] types) {
        return Arrays.stream(types).map(Class::getSimpleName).toList();
    }
}

import java.lang.reflect.Constructor;
import java.lang.reflect.Field;
import java.lang.reflect.Method;
import java.lang.reflect.Modifier;
import java.util.Arrays;
import java.util.TreeSet;

/** The public face: the constant, the constructor and the methods of the document, and no other. */
public final class FaceTest {
    private static final String[] METHODS = {
        "int begin(int)", "int setEdge(int, int, boolean)", "int append(int)", "int clearInput()",
        "int firstError()", "int load()", "int match(int, int)", "int unmatch(int)", "int augment(int)",
        "int maximize()", "int takeFirst()", "int undo()", "int way(int)", "int wayNode(int, int)",
        "int reach(int, boolean)", "int oddCycle()", "int firstMate(int)", "int proof()",
        "int components(int, boolean)", "int ifChanged(int, int)", "int node(int, int)",
        "int edge(int, int, int)", "int count(int)", "int difference(int)", "double meanUse()",
        "long digest()",
    };

    public static void main(String[] args) {
        Class<?> face = MatchingGraph.class;
        Check.due("the class is public and final", face.getModifiers(), Modifier.PUBLIC | Modifier.FINAL);
        Check.due("NONE", MatchingGraph.NONE, -1);
        TreeSet<String> fields = new TreeSet<>();
        for (Field field : face.getDeclaredFields()) {
            if (!Modifier.isPrivate(field.getModifiers())) {
                fields.add(field.toString());
            }
        }
        Check.due("fields", fields.toString(), "[public static final int MatchingGraph.NONE]");
        for (Constructor<?> constructor : face.getDeclaredConstructors()) {
            Check.due("constructor", constructor.toString(), "public MatchingGraph()");
        }
        methods(face);
        for (Class<?> inside : face.getDeclaredClasses()) {
            int modifiers = inside.getModifiers();
            Check.due(inside + " is static and not public", Modifier.isStatic(modifiers)
                    && !Modifier.isPublic(modifiers) && !Modifier.isProtected(modifiers), true);
        }
        Check.end("FaceTest");
    }

    private static void methods(Class<?> face) {
        TreeSet<String> seen = new TreeSet<>();
        TreeSet<String> names = new TreeSet<>();
        TreeSet<String> hidden = new TreeSet<>();
        for (Method method : face.getDeclaredMethods()) {
            if (Modifier.isPrivate(method.getModifiers())) {
                hidden.add(method.getName());
            } else {
                Check.due(method + " is public", Modifier.isPublic(method.getModifiers()), true);
                Check.due(method + " is of an object", Modifier.isStatic(method.getModifiers()), false);
                String types = Arrays.toString(method.getParameterTypes());
                seen.add(method.getReturnType() + " " + method.getName() + "("
                        + types.substring(1, types.length() - 1) + ")");
                names.add(method.getName());
            }
        }
        Check.due("methods", seen, new TreeSet<>(Arrays.asList(METHODS)));
        hidden.retainAll(names);
        Check.due("private methods with a public name", hidden.toString(), "[]");
    }
}

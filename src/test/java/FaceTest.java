import java.lang.reflect.Constructor;
import java.lang.reflect.Field;
import java.lang.reflect.Method;
import java.lang.reflect.Modifier;
import java.util.ArrayList;
import java.util.Collections;
import java.util.List;
import java.util.Set;
import java.util.TreeSet;

/** The face of the document, and the rules 1 and 5 of the language about what else may be there. */
final class FaceTest {
    private static final List<String> FACE = List.of(
            "public boolean TreePaths.type(char)",
            "public int TreePaths.character(int,int)",
            "public int TreePaths.document() throws java.lang.IllegalArgumentException",
            "public int TreePaths.find() throws java.lang.IllegalStateException,java.lang.UnsupportedOperationException",
            "public int TreePaths.found(int)",
            "public int TreePaths.kind(int)",
            "public int TreePaths.outer(int)",
            "public int TreePaths.path(int,int)",
            "public int TreePaths.place()",
            "public int TreePaths.query() throws java.lang.IllegalArgumentException",
            "public int TreePaths.size(int)",
            "public int TreePaths.text(int,int)",
            "public static final int TreePaths.NONE",
            "public TreePaths()");

    public static void main(String[] args) {
        Session.due("modifiers", Modifier.toString(TreePaths.class.getModifiers()), "public final");
        face();
        inside();
        Session.end();
    }

    private static void face() {
        List<String> met = new ArrayList<>();
        for (Constructor<?> constructor : TreePaths.class.getDeclaredConstructors()) {
            met.add(constructor.toString());
        }
        for (Method method : TreePaths.class.getDeclaredMethods()) {
            if (!Modifier.isPrivate(method.getModifiers())) {
                met.add(method.toString());
            }
        }
        for (Field field : TreePaths.class.getDeclaredFields()) {
            if (!Modifier.isPrivate(field.getModifiers())) {
                met.add(field.toString());
            }
        }
        List<String> due = new ArrayList<>(FACE);
        Collections.sort(due);
        Collections.sort(met);
        Session.due("face", met.toString(), due.toString());
    }

    private static void inside() {
        Set<String> faceNames = new TreeSet<>();
        for (Method method : TreePaths.class.getMethods()) {
            faceNames.add(method.getName());
        }
        ownMethodsHaveNamesOfTheirOwn(TreePaths.class, faceNames);
        staticFieldsAreConstants(TreePaths.class);
        for (Class<?> nested : TreePaths.class.getDeclaredClasses()) {
            Session.due(nested + " is static", Modifier.isStatic(nested.getModifiers()) ? 1 : 0, 1);
            Session.due(nested + " is private", Modifier.isPrivate(nested.getModifiers()) ? 1 : 0, 1);
            ownMethodsHaveNamesOfTheirOwn(nested, faceNames);
            staticFieldsAreConstants(nested);
        }
    }

    private static void ownMethodsHaveNamesOfTheirOwn(Class<?> looked, Set<String> faceNames) {
        for (Method method : looked.getDeclaredMethods()) {
            if (!Modifier.isPublic(method.getModifiers())) {
                Session.due(method + " has a name of the face", faceNames.contains(method.getName()) ? 1 : 0, 0);
            }
        }
    }

    private static void staticFieldsAreConstants(Class<?> looked) {
        for (Field field : looked.getDeclaredFields()) {
            if (Modifier.isStatic(field.getModifiers())) {
                Session.due(field + " is final", Modifier.isFinal(field.getModifiers()) ? 1 : 0, 1);
                Session.due(field + " is a plain constant", field.getType().isPrimitive() ? 1 : 0, 1);
            }
        }
    }
}

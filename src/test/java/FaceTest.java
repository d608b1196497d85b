import java.lang.reflect.Constructor;
import java.lang.reflect.Field;
import java.lang.reflect.Method;
import java.lang.reflect.Modifier;
import java.util.Set;
import java.util.TreeSet;

/** The class shows the document's face and, by LANGUAGE.md's rules 1, 2 and 5, nothing beside it. */
public final class FaceTest {
    private static final Check CHECK = new Check();

    private static final Set<String> FACE = Set.of(
        "int BAD_ARG", "int FULL", "int NO_RUN", "int DONE", "int REFUSED", "int OUTSIDE", "int TIRED",
        "RangeGuard()", "int range(int,int,int)", "int constant(int,int)", "int plus(int,int,int)",
        "int sum(int,int,int)", "int mask(int,int,int)", "int load(int,int,int)",
        "int store(int,int,int)", "int less(int,int,int)", "int jump(int)", "int size()",
        "void clear()", "int setCell(int,int)", "int cell(int)", "int variable(int)", "int run()",
        "int ending()", "int place()", "int worked()", "int digest()");

    public static void main(String[] args) {
        Class<?> type = RangeGuard.class;
        Set<String> shown = new TreeSet<>();
        Set<String> publicNames = new TreeSet<>();
        for (Constructor<?> made : type.getDeclaredConstructors()) {
            shown.add(type.getName() + parameters(made.getParameterTypes()));
            due("constructor is public", Modifier.isPublic(made.getModifiers()));
        }
        for (Method method : type.getDeclaredMethods()) {
            if (!Modifier.isPrivate(method.getModifiers())) {
                shown.add(method.getReturnType() + " " + method.getName() + parameters(method.getParameterTypes()));
                publicNames.add(method.getName());
                due(method + " is public and of the object", method.getModifiers() == Modifier.PUBLIC);
            }
        }
        for (Method method : type.getDeclaredMethods()) {
            boolean hidden = Modifier.isPrivate(method.getModifiers());
            due(method + " has a name of its own", !hidden || !publicNames.contains(method.getName()));
            due(method + " has at most seven parameters", method.getParameterCount() <= 7);
        }
        for (Field field : type.getDeclaredFields()) {
            lookAt(field, shown);
        }
        for (String member : FACE) {
            due("the face has " + member, shown.contains(member));
        }
        for (String member : shown) {
            due("the document has " + member, FACE.contains(member));
        }
        due("public and final", type.getModifiers() == (Modifier.PUBLIC | Modifier.FINAL));
        due("no nested class", type.getDeclaredClasses().length == 0);
        due("no package", type.getPackageName().isEmpty());
        due("no parent but Object", type.getSuperclass() == Object.class && type.getInterfaces().length == 0);
        CHECK.end();
    }

    private static void lookAt(Field field, Set<String> shown) {
        int modifiers = field.getModifiers();
        if (!Modifier.isPrivate(modifiers)) {
            shown.add(field.getType() + " " + field.getName());
            due(field + " is a public constant",
                modifiers == (Modifier.PUBLIC | Modifier.STATIC | Modifier.FINAL));
        }
        boolean isStatic = Modifier.isStatic(modifiers);
        due(field + " is a constant number if static",
            !isStatic || Modifier.isFinal(modifiers) && (field.getType() == int.class || field.getType() == long.class));
        Class<?> held = field.getType().isArray() ? field.getType().getComponentType() : field.getType();
        due(field + " holds whole numbers", held.isPrimitive() && held != float.class && held != double.class);
    }

    private static String parameters(Class<?>[] types) {
        StringBuilder text = new StringBuilder("(");
        for (Class<?> type : types) {
            text.append(text.length() == 1 ? "" : ",").append(type.getName());
        }
        return text.append(")").toString();
    }

    private static void due(String what, boolean holds) {
        CHECK.due(what, holds ? 1 : 0, 1);
    }
}

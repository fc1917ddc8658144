import java.lang.reflect.Constructor;
import java.lang.reflect.Field;
import java.lang.reflect.Method;
import java.lang.reflect.Modifier;
import java.util.Set;
import java.util.TreeSet;

/** The public face of the document, and the rules of LANGUAGE.md that can be read off the compiled class. */
public final class FaceTest {
    private static final int CONSTANT = Modifier.PUBLIC | Modifier.STATIC | Modifier.FINAL;

    private static final Set<String> FACE = Set.of(
        "BAD", "FULL", "NONE", "BracketPairTree()",
        "insert(int,int)", "erase(int,int)", "move(int,int,int)", "mirror(int,int)", "codeAt(int)", "partner(int)",
        "around(int,int)", "depth(int,int)", "looseOpen(int,int,int)", "looseClose(int,int,int)");

    private static final Check CHECK = new Check("FaceTest");

    public static void main(String[] args) {
        theFace();
        theFields();
        theMethods();
        CHECK.finish();
    }

    private static void theFace() {
        Class<?> c = BracketPairTree.class;
        CHECK.yes("the class is public", Modifier.isPublic(c.getModifiers()));
        CHECK.yes("the class is final", Modifier.isFinal(c.getModifiers()));
        CHECK.due("nested classes", c.getDeclaredClasses().length, 0);
        Set<String> seen = new TreeSet<>();
        for (Field f : c.getDeclaredFields()) {
            if (!Modifier.isPrivate(f.getModifiers())) {
                seen.add(f.getName());
                CHECK.yes(f.getName() + " is a constant", f.getModifiers() == CONSTANT && f.getType() == int.class);
            }
        }
        for (Constructor<?> made : c.getDeclaredConstructors()) {
            seen.add(c.getName() + "(" + types(made.getParameterTypes()) + ")");
            CHECK.yes("the constructor is public", Modifier.isPublic(made.getModifiers()));
        }
        for (Method m : c.getDeclaredMethods()) {
            if (!Modifier.isPrivate(m.getModifiers())) {
                seen.add(m.getName() + "(" + types(m.getParameterTypes()) + ")");
                CHECK.yes(m.getName() + " is public", Modifier.isPublic(m.getModifiers()));
                CHECK.yes(m.getName() + " is not static", !Modifier.isStatic(m.getModifiers()));
                CHECK.yes(m.getName() + " answers an int", m.getReturnType() == int.class);
            }
        }
        CHECK.yes("the face is " + FACE + ", seen is " + seen, seen.equals(FACE));
    }

    private static void theFields() {
        int fields = 0;
        for (Field f : BracketPairTree.class.getDeclaredFields()) {
            boolean isConstant = Modifier.isStatic(f.getModifiers());
            Class<?> type = f.getType();
            if (isConstant) {
                boolean isNumber = type == int.class || type == long.class;
                CHECK.yes(f.getName() + " is of int or long", isNumber);
                CHECK.yes(f.getName() + " is final", Modifier.isFinal(f.getModifiers()));
            } else {
                fields++;
                Class<?> part = type.isArray() ? type.getComponentType() : type;
                CHECK.yes(f.getName() + " is of a type that is left", part.isPrimitive());
            }
        }
        CHECK.yes("at most forty fields", fields <= 40);
    }

    private static void theMethods() {
        Set<String> names = new TreeSet<>();
        for (Method m : BracketPairTree.class.getDeclaredMethods()) {
            CHECK.yes(m.getName() + " is a name used once", names.add(m.getName()));
            CHECK.yes(m.getName() + " has at most seven parameters", m.getParameterCount() <= 7);
            CHECK.yes(m.getName() + " answers a number", m.getReturnType().isPrimitive());
        }
    }

    private static String types(Class<?>[] parameters) {
        StringBuilder names = new StringBuilder();
        for (Class<?> p : parameters) {
            names.append(names.length() == 0 ? "" : ",").append(p.getName());
        }
        return names.toString();
    }
}

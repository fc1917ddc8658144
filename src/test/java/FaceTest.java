import java.io.IOException;
import java.lang.reflect.Constructor;
import java.lang.reflect.Field;
import java.lang.reflect.Method;
import java.lang.reflect.Modifier;
import java.nio.file.Files;
import java.nio.file.Path;
import java.util.Set;
import java.util.TreeSet;
import java.util.regex.Matcher;
import java.util.regex.Pattern;

/** The public face of the document, and the rules of LANGUAGE.md that can be read off the class and its text. */
public final class FaceTest {
    private static final int CONSTANT = Modifier.PUBLIC | Modifier.STATIC | Modifier.FINAL;
    private static final Path SOURCE = Path.of("src/main/java/BracketPairTree.java");

    private static final Set<String> FACE = Set.of(
        "BAD", "FULL", "NONE", "BracketPairTree()",
        "insert(int,int)", "erase(int,int)", "move(int,int,int)", "mirror(int,int)", "codeAt(int)", "partner(int)",
        "around(int,int)", "depth(int,int)", "looseOpen(int,int,int)", "looseClose(int,int,int)");

    private static final String[] FORBIDDEN = {
        "import", "package", "float", "double", "String", "Math", "Integer", "System", "Arrays", "Object", "null",
        "throw", "throws", "try", "catch", "finally", "synchronized", "assert", "instanceof", "interface", "enum",
        "record", "protected", "var", "->", "::"};

    private static final Check CHECK = new Check("FaceTest");

    public static void main(String[] args) throws IOException {
        theFace();
        theFields();
        theMethods();
        theText();
        CHECK.finish();
    }

    private static void theFace() {
        Class<?> c = BracketPairTree.class;
        yes("the class is public and final", Modifier.isPublic(c.getModifiers()) && Modifier.isFinal(c.getModifiers()));
        CHECK.due("nested classes", c.getDeclaredClasses().length, 0);
        Set<String> seen = new TreeSet<>();
        for (Field f : c.getDeclaredFields()) {
            if (!Modifier.isPrivate(f.getModifiers())) {
                seen.add(f.getName());
                yes(f.getName() + " is a constant", f.getModifiers() == CONSTANT && f.getType() == int.class);
            }
        }
        for (Constructor<?> made : c.getDeclaredConstructors()) {
            seen.add(c.getName() + "(" + types(made.getParameterTypes()) + ")");
            yes("the constructor is public", Modifier.isPublic(made.getModifiers()));
        }
        for (Method m : c.getDeclaredMethods()) {
            if (!Modifier.isPrivate(m.getModifiers())) {
                seen.add(m.getName() + "(" + types(m.getParameterTypes()) + ")");
                yes(m.getName() + " is public", Modifier.isPublic(m.getModifiers()));
                yes(m.getName() + " is not static", !Modifier.isStatic(m.getModifiers()));
                yes(m.getName() + " answers an int", m.getReturnType() == int.class);
            }
        }
        yes("the face is " + FACE + ", seen is " + seen, seen.equals(FACE));
    }

    private static void theFields() {
        int fields = 0;
        for (Field f : BracketPairTree.class.getDeclaredFields()) {
            boolean isConstant = Modifier.isStatic(f.getModifiers());
            Class<?> type = f.getType();
            if (isConstant) {
                boolean isNumber = type == int.class || type == long.class;
                yes(f.getName() + " is a constant of int or long", isNumber && Modifier.isFinal(f.getModifiers()));
            } else {
                fields++;
                Class<?> part = type.isArray() ? type.getComponentType() : type;
                yes(f.getName() + " is of a type that is left", part.isPrimitive());
            }
        }
        yes("at most forty fields", fields <= 40);
    }

    private static void theMethods() {
        Set<String> names = new TreeSet<>();
        for (Method m : BracketPairTree.class.getDeclaredMethods()) {
            yes(m.getName() + " is a name used once", names.add(m.getName()));
            yes(m.getName() + " has at most seven parameters", m.getParameterCount() <= 7);
            yes(m.getName() + " answers a number", m.getReturnType().isPrimitive());
        }
    }

    private static void theText() throws IOException {
        String code = Files.readString(SOURCE).replaceAll("(?s)/\\*.*?\\*/", "").replaceAll("//.*", "");
        for (String word : FORBIDDEN) {
            boolean isName = Character.isLetter(word.charAt(0));
            Matcher found = Pattern.compile(isName ? "\\b" + word + "\\b" : word).matcher(code);
            yes("the text is without " + word, !found.find());
        }
        for (String line : code.split("\n")) {
            boolean isFieldOfArray = line.matches("    private final \\w+\\[\\] \\w+ = new \\w+\\[[A-Z_]+\\];");
            yes("an array is made in a field alone: " + line, !line.contains("new ") || isFieldOfArray);
        }
    }

    private static String types(Class<?>[] parameters) {
        StringBuilder names = new StringBuilder();
        for (Class<?> p : parameters) {
            names.append(names.length() == 0 ? "" : ",").append(p.getName());
        }
        return names.toString();
    }

    private static void yes(String words, boolean holds) {
        CHECK.due(words + " (1 is yes)", holds ? 1 : 0, 1);
    }
}

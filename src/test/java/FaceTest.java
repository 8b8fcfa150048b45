import java.lang.reflect.Constructor;
import java.lang.reflect.Field;
import java.lang.reflect.Method;
import java.lang.reflect.Modifier;
import java.nio.charset.StandardCharsets;
import java.nio.file.Files;
import java.nio.file.Path;
import java.util.ArrayList;
import java.util.List;
import java.util.TreeSet;

/** The document's face and what of LANGUAGE.md can be seen from outside or in the lines. */
public final class FaceTest {
    private static final String[] FACE = {
        "boolean call(int,int)", "boolean cash(int)", "boolean dates(int)", "boolean end(int)",
        "boolean hold(int,int)", "boolean most(int,int)", "boolean pay(int,int)", "boolean rate(int,int)",
        "int bond(int,int,int,int)", "int count(int)", "int date(int,int)", "int drop(int)", "int fails()",
        "int fault()", "int feed(int,int,int,int,int)", "int lots(int)", "int take()", "int tell()",
        "int told(int,int)", "long balance(int,boolean)", "long cost(boolean)", "long dear(int,boolean)",
        "long lack(int,boolean)", "long lotsCost(int,boolean)", "long multiplier(int,boolean)",
        "long need(boolean)", "long part(int,boolean)", "long surplus(int,boolean)", "long without(int,boolean)"};

    public static void main(String[] args) throws Exception {
        checkFace();
        checkNested(LiabilityMatcher.class);
        checkLines();
        Check.finish();
    }

    private static void checkFace() {
        Class<?> c = LiabilityMatcher.class;
        TreeSet<String> seen = new TreeSet<>();
        TreeSet<String> publicNames = new TreeSet<>();
        for (Method m : c.getDeclaredMethods()) {
            if (!Modifier.isPrivate(m.getModifiers())) {
                seen.add(signature(m));
                publicNames.add(m.getName());
                Check.due("public " + m, Modifier.isPublic(m.getModifiers()) && !Modifier.isStatic(m.getModifiers()), true);
            }
        }
        Check.due("the face's methods " + seen, seen.equals(new TreeSet<>(List.of(FACE))), true);
        noOtherMethodOfTheseNames(c, publicNames);
        for (Field f : c.getDeclaredFields()) {
            boolean isFace = f.getName().equals("NONE");
            Check.due("visible " + f, !Modifier.isPrivate(f.getModifiers()), isFace);
            if (Modifier.isStatic(f.getModifiers())) {
                Check.due("final " + f, Modifier.isFinal(f.getModifiers()), true);
            }
        }
        Constructor<?>[] made = c.getDeclaredConstructors();
        Check.due("constructors", made.length, 1);
        Check.due("its parameters", made[0].getParameterCount(), 0);
        Check.due("public class", Modifier.isPublic(c.getModifiers()) && Modifier.isFinal(c.getModifiers()), true);
        Check.due("NONE", LiabilityMatcher.NONE, -1);
    }

    private static void noOtherMethodOfTheseNames(Class<?> c, TreeSet<String> names) {
        for (Method m : c.getDeclaredMethods()) {
            if (Modifier.isPrivate(m.getModifiers())) {
                Check.due("private " + m, names.contains(m.getName()), false);
            }
        }
        for (Class<?> inside : c.getDeclaredClasses()) {
            for (Method m : inside.getDeclaredMethods()) {
                Check.due("inside " + m, names.contains(m.getName()), false);
            }
        }
    }

    private static String signature(Method m) {
        List<String> types = new ArrayList<>();
        for (Class<?> p : m.getParameterTypes()) {
            types.add(p.getName());
        }
        return m.getReturnType().getName() + " " + m.getName() + "(" + String.join(",", types) + ")";
    }

    private static void checkNested(Class<?> c) {
        Class<?>[] inside = c.getDeclaredClasses();
        Check.due("some twelve classes", inside.length <= 12, true);
        for (Class<?> k : inside) {
            Check.due("static " + k, Modifier.isStatic(k.getModifiers()), true);
            Check.due("not public " + k, !Modifier.isPublic(k.getModifiers()) && !Modifier.isProtected(k.getModifiers()), true);
            int fields = 0;
            for (Field f : k.getDeclaredFields()) {
                fields += Modifier.isStatic(f.getModifiers()) ? 0 : 1;
                Check.due("static final " + f, !Modifier.isStatic(f.getModifiers()) || Modifier.isFinal(f.getModifiers()), true);
            }
            Check.due("some twenty fields in " + k, fields <= 20, true);
            for (Method m : k.getDeclaredMethods()) {
                Check.due("seven parameters " + m, m.getParameterCount() <= 7, true);
            }
        }
    }

    private static void checkLines() throws Exception {
        String source = Files.readString(Path.of("src/main/java/LiabilityMatcher.java"), StandardCharsets.UTF_8);
        String[] banned = {"->", "::", "try {", "catch", "finally", "synchronized", "assert ", "Exact(", "static {",
            "double", "float", "System.out", "Object", "package ", "hashCode", "toString", "instanceof", "import java.util.*"};
        for (String word : banned) {
            Check.due("holds '" + word + "'", source.contains(word), false);
        }
        int imports = 0;
        int begin = -1;
        String[] lines = source.split("\n");
        for (int i = 0; i < lines.length; i++) {
            imports += lines[i].startsWith("import ") ? 1 : 0;
            // A method opens with a brace behind its parameters, four or eight blanks in.
            if (lines[i].matches("( {4}| {8})[a-zA-Z].*[{]") && !lines[i].contains(" class ")) {
                begin = i;
            } else if (lines[i].matches("( {4}| {8})[}]") && begin >= 0) {
                Check.due("lines of the method at " + (begin + 1), i - begin + 1 <= 60, true);
                begin = -1;
            }
        }
        Check.due("imports", imports, 1);
        Check.due("signs beyond 127", source.chars().allMatch(s -> s < 128), true);
    }
}

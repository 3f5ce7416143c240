import java.io.IOException;
import java.lang.reflect.Field;
import java.lang.reflect.Method;
import java.lang.reflect.Modifier;
import java.nio.file.Files;
import java.nio.file.Path;
import java.util.Set;
import java.util.TreeSet;

/** The document's public face, and those rules of LANGUAGE.md that can be seen from outside the code. */
public final class FaceTest {
    private static final Set<String> FACE = Set.of(
        "int letter(int)", "int blank()", "int fault()", "int board()", "int number(int,int)", "int as(int,int)",
        "int way(int,int)", "int paint(int,int)", "int wipe(int)", "int be(int,int)", "int ways(int)", "int mend()",
        "int wins(int)", "int odds(int,int,int)", "int see(int,int,boolean)", "int forget()",
        "int paintings(int,int,int)", "int image()", "int restore()", "int count(int)", "long digest()");

    public static void main(String[] args) throws IOException {
        Check.due("NONE", SumColours.NONE, -1);
        Check.due("UNKNOWN", SumColours.UNKNOWN, -101);
        Check.due("OUTSIDE", SumColours.OUTSIDE, -102);
        Check.due("STATE", SumColours.STATE, -103);
        Check.due("FULL", SumColours.FULL, -104);
        face();
        fields();
        nestedClasses();
        words();
        Check.end("FaceTest");
    }

    private static void face() {
        Set<String> seen = new TreeSet<>();
        Set<String> names = new TreeSet<>();
        for (Method method : SumColours.class.getDeclaredMethods()) {
            if (!Modifier.isPrivate(method.getModifiers())) {
                String whole = method.toString();
                String shown = whole.replace("public ", "").replace("SumColours.", "");
                seen.add(shown);
                names.add(method.getName());
            }
        }
        Check.due("the methods " + seen + " are the face", seen.equals(FACE) ? 1 : 0, 1);
        for (Class<?> inner : SumColours.class.getDeclaredClasses()) {
            for (Method method : inner.getDeclaredMethods()) {
                Check.due(method + " bears a name of the face", names.contains(method.getName()) ? 1 : 0, 0);
            }
        }
        for (Method method : SumColours.class.getDeclaredMethods()) {
            boolean clash = Modifier.isPrivate(method.getModifiers()) && names.contains(method.getName());
            Check.due(method + " bears a name of the face", clash ? 1 : 0, 0);
        }
    }

    private static void fields() {
        int open = 0;
        for (Field field : SumColours.class.getDeclaredFields()) {
            open += Modifier.isPrivate(field.getModifiers()) ? 0 : 1;
            boolean loose = Modifier.isStatic(field.getModifiers()) && !Modifier.isFinal(field.getModifiers());
            Check.due(field + " is static and not final", loose ? 1 : 0, 0);
        }
        Check.due("constants of the face", open, 5);
    }

    private static void nestedClasses() {
        Check.due("SumColours is final", Modifier.isFinal(SumColours.class.getModifiers()) ? 1 : 0, 1);
        for (Class<?> inner : SumColours.class.getDeclaredClasses()) {
            Check.due(inner + " is static", Modifier.isStatic(inner.getModifiers()) ? 1 : 0, 1);
            Check.due(inner + " is public", Modifier.isPublic(inner.getModifiers()) ? 1 : 0, 0);
        }
    }

    private static void words() throws IOException {
        String source = Files.readString(Path.of("src/main/java/SumColours.java"));
        String[] ruledOut = {
            "import ", "package ", "catch", "finally", "synchronized", "assert ", "->", "::", "static {", "throw",
            "var ", "\t"
        };
        for (String word : ruledOut) {
            Check.due("the source has '" + word + "'", source.contains(word) ? 1 : 0, 0);
        }
        for (int place = 0; place < source.length(); place++) {
            if (source.charAt(place) > 126) {
                Check.due("a sign above 126 at " + place, 1, 0);
            }
        }
    }
}

import java.io.IOException;
import java.lang.reflect.Constructor;
import java.lang.reflect.Field;
import java.lang.reflect.Method;
import java.lang.reflect.Modifier;
import java.nio.file.Files;
import java.nio.file.Path;
import java.util.HashSet;
import java.util.Set;
import java.util.TreeSet;
import java.util.regex.Pattern;

/** The face of the document, and those rules of ../shared/LANGUAGE.md that can be seen from outside. */
final class LanguageTests {
    private static final Check CHECK = new Check("LanguageTests");
    private static final String FACE = "layer3 drop1 move2 dress4 told2 taken3 dot4 brush4 touch2 feed6 stroke1 box5"
            + " flood4 undo1 mask5 wand5 grow1 masked1 dither2 areas1 sprayed3 chance6 tells3 film2 image0 back0"
            + " count1 sheet3 put3 copy5";

    /** A line that begins a method, of the class or of one inside it. */
    private static final String METHOD = "( {4}| {8})(?! |for|if|while|switch|do ).*\\) \\{";

    private LanguageTests() {
    }

    public static void main(String[] args) throws IOException {
        face();
        constants();
        nestedClasses();
        source(Files.readString(Path.of("src/main/java/RasterPainter.java")));
        CHECK.close();
    }

    private static void face() {
        Class<?> c = RasterPainter.class;
        CHECK.holds("the class is public and final", Modifier.isPublic(c.getModifiers())
                && Modifier.isFinal(c.getModifiers()));
        Set<String> want = new TreeSet<>(Set.of(FACE.split(" ")));
        Set<String> got = new TreeSet<>();
        Set<String> hidden = new HashSet<>();
        for (Method m : c.getDeclaredMethods()) {
            if (m.isSynthetic() || Modifier.isPrivate(m.getModifiers())) {
                hidden.add(m.getName());
                continue;
            }
            CHECK.holds(m + " is public", Modifier.isPublic(m.getModifiers()) && !Modifier.isStatic(m.getModifiers()));
            CHECK.holds(m + " answers an int", m.getReturnType() == int.class);
            for (Class<?> p : m.getParameterTypes()) {
                CHECK.holds(m + " takes ints", p == int.class);
            }
            got.add(m.getName() + m.getParameterCount());
        }
        CHECK.holds("the methods are the document's: " + got, got.equals(want));
        for (Method m : c.getMethods()) {
            CHECK.holds("no private method bears a public name: " + m.getName(), !hidden.contains(m.getName()));
        }
        Constructor<?>[] constructors = c.getDeclaredConstructors();
        CHECK.due("constructors", constructors.length, 1);
        CHECK.holds("the constructor is public and takes nothing",
                Modifier.isPublic(constructors[0].getModifiers()) && constructors[0].getParameterCount() == 0);
    }

    private static void constants() {
        CHECK.due("NONE", RasterPainter.NONE, -1);
        CHECK.due("BAD", RasterPainter.BAD, -2);
        CHECK.due("STATE", RasterPainter.STATE, -3);
        CHECK.due("FULL", RasterPainter.FULL, -4);
        Set<String> want = Set.of("NONE", "BAD", "STATE", "FULL");
        int seen = 0;
        int fields = 0;
        for (Field f : RasterPainter.class.getDeclaredFields()) {
            boolean isStatic = Modifier.isStatic(f.getModifiers());
            CHECK.holds(f + ": static is final", !isStatic || Modifier.isFinal(f.getModifiers()));
            fields += isStatic ? 0 : 1;
            if (!Modifier.isPrivate(f.getModifiers())) {
                CHECK.holds(f + " is of the document", want.contains(f.getName())
                        && Modifier.isPublic(f.getModifiers()) && isStatic);
                seen++;
            }
        }
        CHECK.due("public constants", seen, 4);
        CHECK.holds("some twenty fields", fields <= 20);
    }

    private static void nestedClasses() {
        Class<?>[] inside = RasterPainter.class.getDeclaredClasses();
        CHECK.holds("some twelve classes: " + inside.length, inside.length <= 11);
        for (Class<?> c : inside) {
            CHECK.holds(c + " is static and hidden", Modifier.isStatic(c.getModifiers())
                    && !Modifier.isPublic(c.getModifiers()) && !Modifier.isProtected(c.getModifiers()));
            int fields = 0;
            for (Field f : c.getDeclaredFields()) {
                CHECK.holds(f + ": static is final", !Modifier.isStatic(f.getModifiers())
                        || Modifier.isFinal(f.getModifiers()));
                fields += Modifier.isStatic(f.getModifiers()) ? 0 : 1;
            }
            CHECK.holds(c + ": some twenty fields", fields <= 20);
            for (Method m : c.getDeclaredMethods()) {
                CHECK.holds(m + ": seven parameters at most", m.getParameterCount() <= 7);
                CHECK.holds(m + " is none of Object's", !Set.of("equals", "hashCode", "toString").contains(m.getName()));
            }
        }
    }

    private static void source(String text) {
        String code = text.replaceAll("(?s)/\\*.*?\\*/", " ").replaceAll("//[^\n]*", " ");
        String[] forbidden = {"\\bpackage\\b", "->", "::", "\\btry\\b", "\\bcatch\\b", "\\bfinally\\b", "\\bthrows?\\b",
            "\\bsynchronized\\b", "\\bassert\\b", "\\bThread\\b", "\\bRandom\\b", "Exact\\b", "\\bSystem\\.(?!arraycopy)",
            "\\bMath\\.(?!abs|max|min|floorDiv|floorMod)", "\\bvolatile\\b", "\\bnative\\b", "\\bstatic\\s*\\{",
            "\\bdouble\\b", "\\bgetClass\\b", "\\bprotected\\b", "while \\(true\\)", "for \\(;;\\)"};
        for (String pattern : forbidden) {
            CHECK.holds("no " + pattern, !Pattern.compile(pattern).matcher(code).find());
        }
        for (String line : text.split("\n")) {
            if (line.startsWith("import ")) {
                CHECK.holds(line, line.equals("import java.util.Arrays;"));
            }
        }
        for (int i = 0; i < text.length(); i++) {
            if (text.charAt(i) > 126) {
                CHECK.holds("sign " + (int) text.charAt(i), false);
            }
        }
        methodsAreShort(text);
        nothingIsMadeInCalls(code);
    }

    private static void methodsAreShort(String text) {
        int length = 0;
        for (String line : text.split("\n")) {
            boolean begins = line.matches(METHOD);
            boolean ends = line.matches("( {4}| {8})\\}");
            if (begins) {
                length = 0;
            }
            length++;
            CHECK.holds("a method of some sixty lines at most", !ends || length <= 60);
        }
    }

    /** All that the program needs is made with a new object: each new stands in a field or a constructor. */
    private static void nothingIsMadeInCalls(String code) {
        Set<String> makers = Set.of("RasterPainter()", "Acts()", "Picture()");
        String method = "";
        for (String line : code.split("\n")) {
            if (line.matches(METHOD)) {
                method = line.replaceAll("^.*?([A-Za-z]+\\(.*\\)) \\{$", "$1");
            }
            boolean makesField = line.matches(" +(private )?final [A-Za-z\\[\\]]+ [a-z]+ = new .*;");
            if (line.contains("new ")) {
                CHECK.holds("nothing is made in " + method + ": " + line, makesField || makers.contains(method));
            }
        }
    }
}

import java.io.IOException;
import java.lang.reflect.Constructor;
import java.lang.reflect.Field;
import java.lang.reflect.Method;
import java.lang.reflect.Modifier;
import java.nio.file.Files;
import java.nio.file.Path;
import java.util.Arrays;
import java.util.Set;
import java.util.TreeSet;
import java.util.regex.Matcher;
import java.util.regex.Pattern;
import java.util.stream.Collectors;

/** The public face of the document, and those rules of LANGUAGE.md that can be told by looking. */
public final class FaceTest {
    private static final Path SOURCE = Path.of("src/main/java/OctagonYard.java");
    private static final Due DUE = new Due("FaceTest");
    private static final Set<String> METHODS = Set.of(
        "int block(int,int,int)", "int cut(int,int,int)", "int move(int,int,int)", "int turn(int,int)",
        "int scrap(int)", "int bound(int,int)", "int about(int,int)", "int corner(int,int,int)",
        "int side(int,int)", "int area(int)", "long volume(int)", "int inside(int,int,int)", "int waste(int)",
        "int near(int,int)", "int touch(int,int,int)", "int rule(int,int,int,int)", "int pack(int,boolean)",
        "int above(int,int,int)", "int treats(int,int)", "int undecided()", "int meet(int,int)",
        "int assembly()", "int put(int,int,boolean)", "int walked(int)", "int walk(int,int)",
        "long weight(int)", "int price(int)", "int check(int)", "int undo()", "int count(int)");

    public static void main(String[] args) throws IOException {
        constants();
        members();
        nestedClasses();
        String code = withoutComments(Files.readString(SOURCE));
        forbiddenWords(code);
        library(code);
        DUE.end();
    }

    private static void constants() {
        DUE.is("BAD", -1, OctagonYard.BAD);
        DUE.is("STATE", -2, OctagonYard.STATE);
        DUE.is("FULL", -3, OctagonYard.FULL);
        DUE.is("NONE", -4, OctagonYard.NONE);
    }

    private static void members() {
        Class<?> face = OctagonYard.class;
        DUE.is("the class is public and final", Modifier.PUBLIC | Modifier.FINAL, face.getModifiers());
        Set<String> open = new TreeSet<>();
        for (Method m : face.getDeclaredMethods()) {
            if (!Modifier.isPrivate(m.getModifiers())) {
                DUE.is(m + " is public", Modifier.PUBLIC, m.getModifiers());
                open.add(m.getReturnType() + " " + m.getName() + "(" + Arrays.stream(m.getParameterTypes())
                    .map(Class::getName).collect(Collectors.joining(",")) + ")");
            }
        }
        DUE.holds("the methods are " + open, open.equals(METHODS));
        Constructor<?>[] made = face.getDeclaredConstructors();
        DUE.is("constructors", 1, made.length);
        DUE.is("the constructor is public", Modifier.PUBLIC, made[0].getModifiers());
        DUE.is("its parameters", 0, made[0].getParameterCount());
        Set<String> fields = Arrays.stream(face.getDeclaredFields())
            .filter(f -> !Modifier.isPrivate(f.getModifiers())).map(Field::getName).collect(Collectors.toSet());
        DUE.holds("the fields are " + fields, fields.equals(Set.of("BAD", "STATE", "FULL", "NONE")));
    }

    private static void nestedClasses() {
        Set<String> open = METHODS.stream().map(m -> m.replaceAll("^\\w+ |\\(.*", "")).collect(Collectors.toSet());
        for (Class<?> c : OctagonYard.class.getDeclaredClasses()) {
            DUE.holds(c + " is static", Modifier.isStatic(c.getModifiers()));
            DUE.holds(c + " is not open", !Modifier.isPublic(c.getModifiers()) && !Modifier.isProtected(c.getModifiers()));
            for (Method m : c.getDeclaredMethods()) {
                DUE.holds(m + " has a name of its own", !open.contains(m.getName()));
                DUE.holds(m + " has few parameters", m.getParameterCount() <= 7);
            }
            for (Field f : c.getDeclaredFields()) {
                boolean kept = !Modifier.isStatic(f.getModifiers()) || Modifier.isFinal(f.getModifiers());
                DUE.holds(f + " is no static state", kept);
            }
        }
        DUE.holds("some twelve classes", OctagonYard.class.getDeclaredClasses().length < 12);
    }

    private static String withoutComments(String text) {
        return text.replaceAll("(?s)/\\*.*?\\*/", "").replaceAll("//[^\\n]*", "");
    }

    private static void forbiddenWords(String code) {
        String[] words = {"throw", "throws", "try", "catch", "finally", "synchronized", "assert", "package", "native",
            "volatile", "double", "float", "Math\\.\\w*Exact", "->", "::", "hashCode", "System\\.(?!arraycopy)\\w+",
            "Random", "Thread", "static \\{", "List", "Object"};
        for (String word : words) {
            String bounded = Character.isLetter(word.charAt(0)) ? "\\b" + word : word;
            DUE.holds("the code is without " + word, !Pattern.compile(bounded).matcher(code).find());
        }
        String imports = Arrays.stream(code.split("\n")).filter(l -> l.startsWith("import")).collect(Collectors.joining());
        DUE.holds("the imports are " + imports, imports.equals("import java.util.Arrays;"));
    }

    /** Rule 4 lists functions alone, so a constant of the library is outside it, too. */
    private static void library(String code) {
        Set<String> listed = Set.of("Math.max(", "Math.min(", "Math.floorDiv(", "Integer.bitCount(",
            "System.arraycopy(", "Arrays.fill(");
        Matcher used = Pattern.compile("\\b(?:Math|Integer|Long|System|Arrays|String|Character|Boolean)\\.\\w+\\W").matcher(code);
        while (used.find()) {
            DUE.holds(used.group() + " is listed", listed.contains(used.group()));
        }
    }
}

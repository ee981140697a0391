import java.io.IOException;
import java.lang.reflect.Constructor;
import java.lang.reflect.Field;
import java.lang.reflect.Method;
import java.lang.reflect.Modifier;
import java.nio.file.Files;
import java.nio.file.Path;
import java.util.Arrays;
import java.util.Set;
import java.util.TreeSet;
import java.util.regex.Matcher;
import java.util.regex.Pattern;
import java.util.stream.Collectors;

/** The face of the document and those rules of LANGUAGE.md that can be read off the class and its text. */
public final class FaceTest {
    private static final Set<String> FACE = new TreeSet<>(Set.of(
        "int begin(int) IllegalArgumentException IllegalStateException",
        "int get(int,int) IllegalArgumentException IllegalStateException NoSuchElementException",
        "int put(int,int,int) IllegalArgumentException IllegalStateException",
        "int remove(int,int) IllegalArgumentException IllegalStateException NoSuchElementException",
        "int commit(int) IllegalArgumentException IllegalStateException",
        "int abort(int) IllegalArgumentException IllegalStateException",
        "int settle()",
        "boolean flush(int)",
        "boolean backup(int)",
        "boolean damage(int)",
        "int crash()",
        "int page(int,int)",
        "int show(int,int)",
        "int count(int)",
        "int record(int,int)",
        "int lock(int,int)"));

    private static final String FORBIDDEN =
        "->|::|\\bfinally\\b|\\btry\\b|\\bsynchronized\\b|\\bassert\\b|\\bSystem\\.(?!arraycopy)|\\bThread\\b"
        + "|\\bMath\\.random\\b|\\bRandom\\b|\\bprotected\\b|\\bequals\\(|\\bhashCode\\(|\\btoString\\(|Exact\\(|\\bpackage\\b";

    private static final Checks CHECKS = new Checks();

    public static void main(String[] args) throws IOException {
        Class<?> keeper = PageKeeper.class;
        CHECKS.due("the class is public and final", true,
            () -> keeper.getModifiers() == (Modifier.PUBLIC | Modifier.FINAL) ? "true" : "false");
        CHECKS.due("the public methods", FACE, () -> publicMethods(keeper));
        CHECKS.due("the public constants", "[NONE]", () -> publicConstants(keeper));
        CHECKS.due("the constructors", "[public PageKeeper()]",
            () -> Arrays.stream(keeper.getDeclaredConstructors()).map(Constructor::toString).collect(Collectors.toList()));
        CHECKS.due("private methods with a public name", "[]", () -> shadows(keeper));
        for (Class<?> inside : keeper.getDeclaredClasses()) {
            CHECKS.due(inside + " is static and not public", "true", () ->
                String.valueOf(Modifier.isStatic(inside.getModifiers()) && !Modifier.isPublic(inside.getModifiers())));
            CHECKS.due("methods of " + inside + " with a public name", "[]", () -> shadows(inside));
        }
        String text = withoutComments(Files.readString(Path.of("src/main/java/PageKeeper.java")));
        CHECKS.due("the imports", "[import java.util.NoSuchElementException;]", () -> found(text, "import [^;]*;"));
        CHECKS.due("what the language leaves out", "[]", () -> found(text, FORBIDDEN));
        CHECKS.close("FaceTest");
    }

    private static Set<String> publicMethods(Class<?> keeper) {
        Set<String> told = new TreeSet<>();
        for (Method m : keeper.getDeclaredMethods()) {
            if (Modifier.isPrivate(m.getModifiers())) {
                continue;
            }
            String takes = Arrays.stream(m.getParameterTypes()).map(Class::getName).collect(Collectors.joining(","));
            String declares = Arrays.stream(m.getExceptionTypes()).map(e -> " " + e.getSimpleName()).sorted().collect(Collectors.joining());
            told.add(m.getReturnType() + " " + m.getName() + "(" + takes + ")" + declares);
        }
        return told;
    }

    private static Set<String> publicConstants(Class<?> keeper) {
        return Arrays.stream(keeper.getDeclaredFields()).filter(f -> !Modifier.isPrivate(f.getModifiers()))
            .map(Field::getName).collect(Collectors.toCollection(TreeSet::new));
    }

    private static Set<String> shadows(Class<?> inside) {
        Set<String> publicNames = FACE.stream().map(s -> s.replaceAll("\\(.*", "").replaceAll(".* ", "")).collect(Collectors.toSet());
        return Arrays.stream(inside.getDeclaredMethods()).filter(m -> !Modifier.isPublic(m.getModifiers()))
            .map(Method::getName).filter(publicNames::contains).collect(Collectors.toCollection(TreeSet::new));
    }

    private static String withoutComments(String text) {
        return text.replaceAll("(?s)/\\*.*?\\*/", "").replaceAll("//.*", "");
    }

    private static Set<String> found(String text, String pattern) {
        Set<String> found = new TreeSet<>();
        Matcher m = Pattern.compile(pattern).matcher(text);
        while (m.find()) {
            found.add(m.group());
        }
        return found;
    }
}

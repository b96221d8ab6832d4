import java.io.IOException;
import java.lang.reflect.Constructor;
import java.lang.reflect.Field;
import java.lang.reflect.Method;
import java.lang.reflect.Modifier;
import java.nio.charset.StandardCharsets;
import java.nio.file.Files;
import java.nio.file.Path;
import java.util.Arrays;
import java.util.Set;
import java.util.TreeSet;
import java.util.regex.Matcher;
import java.util.regex.Pattern;
import java.util.stream.Collectors;

/**
 * The face of the class, and those rules of LANGUAGE.md that can be seen by simple means. It is
 * run from the root of the project, where it finds the source.
 */
public final class PairpicturesLanguage extends Sentences {
    private static final String I = "IndexOutOfBoundsException";
    private static final String A = I + ", IllegalArgumentException";
    private static final String S = I + ", IllegalStateException";
    private static final String[] FACE = {
        "int put(int, int, int) " + A, "int putNew(int, int, int) " + A,
        "int replace(int, int, int) " + A, "boolean swap(int, int, int, int) " + A,
        "int drop(int, int) " + I, "boolean dropPair(int, int, int) " + A, "int empty(int) " + I,
        "int addAll(int, int) " + I, "int rewrite(int, int, int) " + A, "int value(int, int) " + I,
        "int valueOr(int, int, int) " + I, "boolean has(int, int) " + I,
        "boolean hasValue(int, int) " + A, "int size(int) " + I, "boolean isEmpty(int) " + I,
        "String text(int) " + I, "int hash(int) " + I, "boolean isSame(int, int) " + I,
        "boolean isTurned(int) " + I, "String key(int, int, int) " + A,
        "boolean picture(int, int, int, int) " + A, "boolean poll(int, boolean, int) " + I,
        "boolean isThere(int) " + I, "int keyOf(int) " + S, "int valueOf(int) " + S,
        "String textOf(int) " + S, "int hashOf(int) " + S,
        "int writeTo(int, int) " + A + ", IllegalStateException", "boolean areAlike(int, int) " + S,
        "String setKey(int, boolean, int, int) " + A, "String setPoll(int, boolean, boolean) " + I,
        "boolean setDrop(int, boolean, int) " + I, "int setAdd(int, boolean, int) " + I,
        "boolean setHas(int, boolean, int) " + I, "int setSize(int, boolean) " + I,
        "String keys(int, boolean, boolean) " + I, "boolean walk(int, boolean) " + I,
        "boolean isMore(int) " + S, "String next(int) " + S, "int dropLast(int) " + S,
        "int house(int) IllegalArgumentException", "int knock() ", "boolean isSound() ",
        "long digest() "};

    private static final String[] BANNED = {"\\bimport\\b", "\\bpackage\\b", "\\btry\\b",
        "\\bcatch\\b", "\\bfinally\\b", "\\bsynchronized\\b", "\\bassert\\b", "->", "::",
        "\\bObject\\b", "\\bfloat\\b", "\\bdouble\\b", "\\bprotected\\b", "\\bwhile\\b",
        "\\bextends\\b", "\\bimplements\\b", "\\bvar\\b", "@", "\\bInteger\\b", "\\bMath\\b",
        "\\bSystem\\.(?!arraycopy\\b)", "\\bString\\.", "\\bnull\\b"};

    private static String written(Method method) {
        return method.getReturnType().getSimpleName() + " " + method.getName() + "("
                + Arrays.stream(method.getParameterTypes()).map(Class::getSimpleName)
                        .collect(Collectors.joining(", ")) + ") "
                + Arrays.stream(method.getExceptionTypes()).map(Class::getSimpleName)
                        .collect(Collectors.joining(", "));
    }

    private static void face() {
        Set<String> want = new TreeSet<>(Arrays.asList(FACE));
        Set<String> got = new TreeSet<>();
        Set<String> publicNames = new TreeSet<>();
        for (Method method : Pairpictures.class.getDeclaredMethods()) {
            if (!Modifier.isPrivate(method.getModifiers())) {
                got.add(written(method));
                publicNames.add(method.getName());
            }
        }
        if (!want.equals(got)) {
            fault("the face is " + got + ", due is " + want);
        }
        members(Pairpictures.class, publicNames);
        for (Class<?> inside : Pairpictures.class.getDeclaredClasses()) {
            members(inside, publicNames);
            if (!Modifier.isStatic(inside.getModifiers()) || Modifier.isPublic(inside.getModifiers())) {
                fault(inside + " is not static and hidden");
            }
        }
        Constructor<?>[] made = Pairpictures.class.getDeclaredConstructors();
        if (made.length != 1 || !Modifier.isPublic(made[0].getModifiers())
                || made[0].getParameterCount() != 0) {
            fault("there is not the one public constructor");
        }
        if (!Modifier.isFinal(Pairpictures.class.getModifiers())) {
            fault("the class is not final");
        }
    }

    private static void members(Class<?> of, Set<String> publicNames) {
        int fields = 0;
        for (Field field : of.getDeclaredFields()) {
            boolean isStatic = Modifier.isStatic(field.getModifiers());
            fields += isStatic ? 0 : 1;
            if (!Modifier.isPrivate(field.getModifiers())
                    || isStatic && !Modifier.isFinal(field.getModifiers())) {
                fault("field " + field);
            }
        }
        if (fields > 20) {
            fault(of + " has " + fields + " fields");
        }
        for (Method method : of.getDeclaredMethods()) {
            if (method.getParameterCount() > 7) {
                fault(method + " has more than seven parameters");
            }
            boolean isOfFace = of == Pairpictures.class && Modifier.isPublic(method.getModifiers());
            if (!isOfFace && publicNames.contains(method.getName())) {
                fault(method + " bears the name of a public one");
            }
        }
    }

    private static void source() throws IOException {
        String text = Files.readString(Path.of("src/main/java/Pairpictures.java"),
                StandardCharsets.US_ASCII);
        String bare = text.replaceAll("(?s)/\\*.*?\\*/", "").replaceAll("//[^\n]*", "");
        String code = bare.replaceAll("\"[^\"\n]*\"", "\"\"");
        for (String banned : BANNED) {
            Matcher found = Pattern.compile(banned).matcher(code);
            if (found.find()) {
                fault("the source has " + found.group());
            }
        }
        Matcher thrown = Pattern.compile("throw\\s+(?!new (IndexOutOfBounds|IllegalArgument|IllegalState)"
                + "Exception\\(\"[^\"]*\"\\);)").matcher(bare);
        if (thrown.find()) {
            fault("a throw that is not of the document's exceptions with a written text");
        }
    }

    public static void main(String[] args) throws IOException {
        face();
        source();
        end("face and language");
    }
}

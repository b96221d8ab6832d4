import java.io.IOException;
import java.lang.reflect.Constructor;
import java.lang.reflect.Field;
import java.lang.reflect.Method;
import java.lang.reflect.Modifier;
import java.nio.charset.StandardCharsets;
import java.nio.file.Files;
import java.nio.file.Path;
import java.util.Arrays;
import java.util.Set;
import java.util.TreeSet;
import java.util.regex.Matcher;
import java.util.regex.Pattern;
import java.util.stream.Collectors;

/**
 * The face of the class is the one that the document writes out, word by word, and there is nothing
 * beside it. It is run from the root of the project, where it finds the source and the document.
 */
public final class PairpicturesFace extends Sentences {
    private static final Path SOURCE = Path.of("src/main/java/Pairpictures.java");
    private static final Path DOCUMENT = Path.of("../shared/DOC.md");

    private static String plain(String head) {
        return head.replaceAll("\\s+", " ").trim();
    }

    /** The heads of the face as the document has them: "public int knock()". */
    private static Set<String> headsOfDocument() throws IOException {
        String text = Files.readString(DOCUMENT, StandardCharsets.UTF_8);
        int start = text.indexOf("```java\n");
        String block = text.substring(start, text.indexOf("\n```", start));
        Set<String> heads = new TreeSet<>();
        Matcher head = Pattern.compile("public [^;{]*").matcher(block);
        while (head.find()) {
            heads.add(plain(head.group()));
        }
        return heads;
    }

    private static Set<String> headsOfSource() throws IOException {
        String text = Files.readString(SOURCE, StandardCharsets.US_ASCII);
        String code = text.replaceAll("(?s)/\\*.*?\\*/", "").replaceAll("//[^\n]*", "");
        Set<String> heads = new TreeSet<>();
        Matcher head = Pattern.compile("\\bpublic [^;{]*").matcher(code);
        while (head.find()) {
            heads.add(plain(head.group()));
        }
        return heads;
    }

    /** A head without the names of its parameters, as reflection can tell it. */
    private static String bare(String head) {
        return head.replaceAll("\\b(int|boolean) \\w+(?=[,)])", "$1");
    }

    private static String written(Method method) {
        String thrown = Arrays.stream(method.getExceptionTypes()).map(Class::getSimpleName)
                .collect(Collectors.joining(", "));
        return Modifier.toString(method.getModifiers()) + " "
                + method.getReturnType().getSimpleName() + " " + method.getName() + "("
                + Arrays.stream(method.getParameterTypes()).map(Class::getSimpleName)
                        .collect(Collectors.joining(", ")) + ")"
                + (thrown.isEmpty() ? "" : " throws " + thrown);
    }

    private static void same(Set<String> want, Set<String> got) {
        for (String head : want) {
            if (!got.contains(head)) {
                fault("it is not there: " + head);
            }
        }
        for (String head : got) {
            if (!want.contains(head)) {
                fault("it is not the document's: " + head);
            }
        }
    }

    private static void sameHeads() throws IOException {
        about("the public face");
        Set<String> want = headsOfDocument();
        same(want, headsOfSource());
        Set<String> bareWant = new TreeSet<>();
        for (String head : want) {
            if (head.contains("(") && !head.equals("public Pairpictures()")) {
                bareWant.add(bare(head));
            }
        }
        Set<String> got = new TreeSet<>();
        for (Method method : Pairpictures.class.getDeclaredMethods()) {
            if (!Modifier.isPrivate(method.getModifiers())) {
                got.add(written(method));
            }
        }
        same(bareWant, got);
        due(44, "how many methods there are", () -> got.size());
    }

    private static void theClass() {
        about("rule 1 of LANGUAGE.md");
        Constructor<?>[] made = Pairpictures.class.getDeclaredConstructors();
        if (made.length != 1 || !Modifier.isPublic(made[0].getModifiers())
                || made[0].getParameterCount() != 0) {
            fault("there is not the one public constructor");
        }
        for (Field field : Pairpictures.class.getDeclaredFields()) {
            if (!Modifier.isPrivate(field.getModifiers())) {
                fault("the document has no " + field);
            }
        }
        for (Class<?> inside : Pairpictures.class.getDeclaredClasses()) {
            if (!Modifier.isStatic(inside.getModifiers())
                    || Modifier.isPublic(inside.getModifiers())
                    || Modifier.isProtected(inside.getModifiers())) {
                fault(inside + " is not static and hidden");
            }
        }
    }

    /** No method but those of the face bears a name of the face. */
    private static void names() {
        about("rule 1 of LANGUAGE.md");
        Set<String> names = new TreeSet<>();
        for (Method method : Pairpictures.class.getDeclaredMethods()) {
            if (Modifier.isPublic(method.getModifiers())) {
                names.add(method.getName());
            }
        }
        for (Method method : Pairpictures.class.getDeclaredMethods()) {
            if (!Modifier.isPublic(method.getModifiers()) && names.contains(method.getName())) {
                fault(method + " bears the name of a public one");
            }
        }
        for (Class<?> inside : Pairpictures.class.getDeclaredClasses()) {
            for (Method method : inside.getDeclaredMethods()) {
                if (names.contains(method.getName())) {
                    fault(method + " bears the name of a public one");
                }
            }
        }
    }

    public static void main(String[] args) throws IOException {
        sameHeads();
        theClass();
        names();
        end("the face");
    }
}

import java.io.IOException;
import java.lang.reflect.Field;
import java.lang.reflect.Method;
import java.net.URL;
import java.net.URLClassLoader;
import java.nio.charset.StandardCharsets;
import java.nio.file.Files;
import java.nio.file.Path;
import javax.tools.ToolProvider;

/**
 * By the face alone an object cannot become unsound. So this test spoils the rows inside (by
 * reflection), and then makes a version of the class that answers wrong in one place alone, and
 * sees that isSound looks at that place. It is run from the root of the project.
 */
public final class PairpicturesUnsound extends Sentences {
    private static final Path SOURCE = Path.of("src/main/java/Pairpictures.java");
    private static final String FIND = "        int find(boolean isDown, int which, int key) {\n";
    private static final String STEP = "        int placeInSet(boolean isDown, int step) {\n";
    private static final String INSERT = "        void insertAt(int place, int key, int value) {\n";
    private static final String SAME = "        boolean hasPairsOf(Table other) {\n";
    private static final String FIELDS = "    private static final int NONE = -1;\n";

    private static Class<?> broken;

    // ---- spoilt rows

    private static int[] row(Pairpictures x, int table, String name)
            throws ReflectiveOperationException {
        Field field = Pairpictures.class.getDeclaredField("table" + table);
        field.setAccessible(true);
        Object pairs = field.get(x);
        Field row = pairs.getClass().getDeclaredField(name);
        row.setAccessible(true);
        return (int[]) row.get(pairs);
    }

    private static void spoiltRows(int table) throws ReflectiveOperationException {
        about("promise 44, rows of TABLE " + table + " that are spoilt");
        Pairpictures x = new Pairpictures();
        for (int key = 0; key < 4; key++) {
            x.put(table, key, key);
        }
        long sound = x.digest();
        int[] row = row(x, table, "keyRow");
        int kept = row[2];
        row[2] = row[1];
        due(false, "a KEY twice", () -> x.isSound());
        row[2] = kept;
        due(true, "mended", () -> x.isSound());
        due(sound, "mended, digest", () -> x.digest());
        int first = row[0];
        row[0] = row[3];
        row[3] = first;
        due(false, "KEYS out of their ORDER", () -> x.isSound());
    }

    // ---- a version of the class that answers wrong in one place

    private static String after(String source, String mark, String inserted) {
        if (source.indexOf(mark) < 0 || source.indexOf(mark) != source.lastIndexOf(mark)) {
            throw new IllegalStateException("the source has not just once: " + mark);
        }
        return source.replace(mark, mark + inserted);
    }

    private static String brokenSource() throws IOException {
        String source = Files.readString(SOURCE, StandardCharsets.US_ASCII);
        source = after(source, FIELDS, "    static int badWhich = -9;\n    static int badKey;\n"
                + "    static int badBy;\n    static boolean isBadBothWays;\n"
                + "    static boolean isBadDown;\n    static int badStep = -9;\n"
                + "    static int badCount = -9;\n    static boolean isBlind;\n");
        source = after(source, FIND, "            int right = findRight(isDown, which, key);\n"
                + "            boolean isBad = key == badKey && (isBadBothWays"
                + " ? (isDown ? otherEnd(which) : which) == badWhich"
                + " : which == badWhich && isDown == isBadDown);\n"
                + "            return !isBad ? right"
                + " : badBy != 0 ? right + badBy : right == NONE ? 0 : NONE;\n        }\n\n"
                + FIND.replace("find(", "findRight("));
        source = after(source, STEP, "            int right = rightPlaceInSet(isDown, step);\n"
                + "            return isDown != isBadDown || step != badStep"
                + " ? right : right == 0 ? 1 : 0;\n        }\n\n"
                + STEP.replace("placeInSet(", "rightPlaceInSet("));
        // The pair that comes to so many others gets another VALUE.
        source = after(source, INSERT, "            if (count == badCount) {\n"
                + "                value = 99;\n            }\n");
        return after(source, SAME,
                "            if (isBlind) {\n                return true;\n            }\n");
    }

    private static void compileBroken() throws IOException, ReflectiveOperationException {
        Path work = Files.createTempDirectory("broken");
        Path file = work.resolve("Pairpictures.java");
        Files.writeString(file, brokenSource());
        int rc = ToolProvider.getSystemJavaCompiler().run(null, null, null, "-d",
                work.toString(), file.toString());
        if (rc != 0) {
            throw new IllegalStateException("the broken version does not compile");
        }
        broken = new URLClassLoader(new URL[] {work.toUri().toURL()}, null)
                .loadClass("Pairpictures");
        broken.getConstructor().newInstance();
    }

    private static Object call(Object x, String name, Object... arguments) {
        try {
            for (Method method : broken.getMethods()) {
                if (method.getName().equals(name)
                        && method.getParameterCount() == arguments.length) {
                    return method.invoke(x, arguments);
                }
            }
        } catch (ReflectiveOperationException thrown) {
            throw new IllegalStateException(name, thrown);
        }
        throw new IllegalStateException("no " + name);
    }

    private static void set(String name, Object value) {
        try {
            Field field = broken.getDeclaredField(name);
            field.setAccessible(true);
            field.set(null, value);
        } catch (ReflectiveOperationException thrown) {
            throw new IllegalStateException(name, thrown);
        }
    }

    private static void mend() {
        set("badWhich", -9);
        set("badBy", 0);
        set("isBadBothWays", false);
        set("badStep", -9);
        set("badCount", -9);
        set("isBlind", false);
    }

    /** An object of the broken version with these KEYS. */
    private static Object made(int table, int... keys) {
        try {
            Object x = broken.getConstructor().newInstance();
            for (int key : keys) {
                call(x, "put", table, key, 7);
            }
            return x;
        } catch (ReflectiveOperationException thrown) {
            throw new IllegalStateException("made", thrown);
        }
    }

    private static void sees(String name, Object x) {
        due(false, "isSound, " + name, () -> call(x, "isSound"));
        long bad = (Long) call(x, "digest");
        mend();
        due(true, "isSound without it, " + name, () -> call(x, "isSound"));
        due(bad + 1, "digest without it, " + name, () -> call(x, "digest"));
    }

    private static void passesOver(String name, Object x) {
        due(true, "isSound, " + name, () -> call(x, "isSound"));
        mend();
    }

    private static void wrongAt(int which, int key, boolean isDown) {
        set("badWhich", which);
        set("badKey", key);
        set("isBadDown", isDown);
    }

    private static void wrongAnswers(int table, int which, boolean isDown) {
        about("promise 44, each KEY of a TABLE, and those 1 less and 1 more");
        for (int key : new int[] {1, 2, 3, 4, 5, 6, 8, 9, 10}) {
            wrongAt(which, key, isDown);
            sees("WHICH " + which + " of " + key + ", TABLE " + table, made(table, 2, 5, 9));
        }
        about("promise 44, other KEYS are not asked for");
        wrongAt(which, 7, isDown);
        passesOver("WHICH " + which + " of 7, TABLE " + table, made(table, 2, 5, 9));
    }

    /** The pairs, the SET UP and the SET DOWN all tell the same here: only the pairs themselves don't. */
    private static void wrongBothWays(int table, int which) {
        about("promise 44, WHICH tells what going over all its pairs finds");
        for (int key : new int[] {1, 2, 3, 4, 5, 6, 8, 9, 10}) {
            for (int by = -1; by <= 1; by++) {
                wrongAt(which, key, false);
                set("badBy", by);
                set("isBadBothWays", true);
                sees("WHICH " + which + " of " + key + " by " + by, made(table, 2, 5, 9));
            }
        }
    }

    private static void wrongOfPictures(int table, int which, boolean isDown) {
        about("promise 44, each KEY of a PICTURE, and those 1 less and 1 more");
        for (int key : new int[] {19, 20, 21}) {
            for (int slot = 0; slot <= 7; slot++) {
                Object x = made(table, 1, 5, 20);
                call(x, "picture", table, 3, 20, slot);
                call(x, "drop", table, 20);
                wrongAt(which, key, isDown);
                sees("WHICH " + which + " of " + key + " of PICTURE " + slot, x);
            }
        }
        about("promise 44, a PICTURE that is none has no KEY");
        Object x = made(table, 1, 5, 20);
        call(x, "poll", table, table != 2, 0);
        call(x, "picture", table, 2, table == 2 ? 5 : 1, 0);
        wrongAt(which, 20, isDown);
        passesOver("WHICH " + which + " of 20", x);
    }

    private static void wrongAtTheEnds(int table, int which, boolean isDown) {
        about("promise 44, those 1 less and 1 more, if they are ints");
        for (int key : new int[] {MIN, MIN + 1, MAX - 1, MAX}) {
            wrongAt(which, key, isDown);
            sees("WHICH " + which + " of " + key + ", TABLE " + table, made(table, MIN, MAX));
        }
        for (int key : new int[] {MIN, MIN + 1}) {
            wrongAt(which, key, isDown);
            sees("WHICH " + which + " of " + key + ", smallest alone", made(table, MIN));
        }
        for (int key : new int[] {MAX - 1, MAX}) {
            wrongAt(which, key, isDown);
            sees("WHICH " + which + " of " + key + ", greatest alone", made(table, MAX));
        }
        wrongAt(which, MAX, isDown);
        passesOver("the greatest is not 1 less than the smallest", made(table, MIN));
        wrongAt(which, MIN, isDown);
        passesOver("the smallest is not 1 more than the greatest", made(table, MAX));
    }

    private static void wrongWays(int table) {
        about("promise 44, going over the SETS both ways tells the same KEYS");
        for (boolean isDown : new boolean[] {false, true}) {
            for (int step = 0; step <= 2; step++) {
                set("isBadDown", isDown);
                set("badStep", step);
                sees("step " + step + (isDown ? " down" : " up"), made(table, 2, 5, 9));
            }
        }
    }

    private static void wrongAnew(int table) {
        about("promise 44, a TABLE to which all its pairs came anew is the same");
        Object x = made(table, 2, 5, 9);
        set("badCount", 2);
        sees("another VALUE, TABLE " + table, x);
        about("promise 44, with the same HASH");
        set("badCount", 2);
        set("isBlind", true);
        due(false, "isSound, another HASH, TABLE " + table, () -> call(x, "isSound"));
        mend();
    }

    public static void main(String[] args) throws IOException, ReflectiveOperationException {
        compileBroken();
        for (int table = 0; table <= 2; table++) {
            spoiltRows(table);
            for (int which = 0; which <= 5; which++) {
                wrongBothWays(table, which);
                for (boolean isDown : new boolean[] {false, true}) {
                    wrongAnswers(table, which, isDown);
                    wrongOfPictures(table, which, isDown);
                    wrongAtTheEnds(table, which, isDown);
                }
            }
            wrongWays(table);
            wrongAnew(table);
        }
        end("unsound objects");
    }
}

import java.lang.reflect.Field;

/**
 * By the face alone an object cannot become unsound; so this test spoils the rows inside (by
 * reflection) and sees that isSound and digest tell it.
 */
public final class PairpicturesUnsound {
    private static int wrong = 0;

    private static void due(String name, boolean isRight) {
        if (!isRight) {
            wrong++;
            System.out.println(name + " is not as due");
        }
    }

    private static int[] keyRow(Pairpictures x, int table) throws ReflectiveOperationException {
        Field field = Pairpictures.class.getDeclaredField("table" + table);
        field.setAccessible(true);
        Object pairs = field.get(x);
        Field row = pairs.getClass().getDeclaredField("keyRow");
        row.setAccessible(true);
        return (int[]) row.get(pairs);
    }

    public static void main(String[] args) throws ReflectiveOperationException {
        for (int table = 0; table <= 2; table++) {
            Pairpictures x = new Pairpictures();
            for (int key = 0; key < 4; key++) {
                x.put(table, key, key);
            }
            long sound = x.digest();
            int[] row = keyRow(x, table);
            int kept = row[2];
            row[2] = row[1];
            due("table " + table + ", a key twice: isSound", !x.isSound());
            row[2] = kept;
            due("table " + table + ", mended: isSound", x.isSound());
            due("table " + table + ", mended: digest", x.digest() == sound);
            int first = row[0];
            row[0] = row[3];
            row[3] = first;
            due("table " + table + ", keys out of order: isSound", !x.isSound());
        }
        System.out.println(wrong == 0 ? "unsound objects: all as due" : wrong + " are not as due");
        if (wrong != 0) {
            System.exit(1);
        }
    }
}

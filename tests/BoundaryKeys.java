import java.math.BigInteger;

/** KEYS that are the smallest or the greatest int, and sums that wrap around. */
public final class BoundaryKeys extends Sentences {
    private static final int[] NEAR_ENDS = {MIN, MIN + 1, MIN + 2, -1, 0, 1, MAX - 2, MAX - 1, MAX};
    private static final int[][] KEYS_OF_TABLES = {{}, {MIN}, {MAX}, {MIN, MAX}, {MIN + 1, MAX - 1},
        {MIN, MIN + 1}, {MAX - 1, MAX}, {MIN, MIN + 1, MAX - 1, MAX}, {MIN, 0, MAX}, {-1, 0, 1}};

    private static Pairpictures with(int table, int... keys) {
        Pairpictures x = new Pairpictures();
        for (int key : keys) {
            x.put(table, key, 7);
        }
        return x;
    }

    private static boolean isAhead(boolean isTurned, int key, int other) {
        return isTurned ? key > other : key < other;
    }

    /** The document's WHICH, word for word, by going over all keys; null if there is none. */
    private static Integer found(boolean isTurned, int[] keys, int which, int k) {
        Integer found = null;
        for (int key : keys) {
            boolean isWanted = which <= 1 || which == 2 && isAhead(isTurned, key, k)
                    || which == 3 && !isAhead(isTurned, k, key)
                    || which == 4 && !isAhead(isTurned, key, k)
                    || which == 5 && isAhead(isTurned, k, key);
            boolean isLastWanted = which == 1 || which == 2 || which == 3;
            if (isWanted && (found == null || isAhead(isTurned, found, key) == isLastWanted)) {
                found = key;
            }
        }
        return found;
    }

    private static String text(Integer key, int which) {
        return key != null ? key.toString() : which <= 1 ? "!" : "none";
    }

    private static void whichOfOne(int table, int[] keys, int which, int k) {
        boolean isTurned = table == 2;
        Integer want = found(isTurned, keys, which, k);
        Integer wantDown = found(!isTurned, keys, which, k);
        String asked = "TABLE " + table + " with " + keys.length + " KEYS, WHICH " + which + " of " + k;
        Pairpictures x = with(table, keys);
        due(text(want, which), "key, " + asked, () -> x.key(table, which, k));
        due(want != null, "picture, " + asked, () -> x.picture(table, which, k, 0));
        due(want == null ? BAD_STATE : want + "=7", "textOf, " + asked, () -> x.textOf(0));
        due(text(want, which), "setKey up, " + asked, () -> x.setKey(table, false, which, k));
        due(text(wantDown, which), "setKey down, " + asked, () -> x.setKey(table, true, which, k));
    }

    private static void whichOfAll() {
        about("'What it is' 1 and 3, WHICH 0 to 5 for any KEY");
        for (int table = 0; table <= 2; table++) {
            for (int[] keys : KEYS_OF_TABLES) {
                for (int which = 0; which <= 5; which++) {
                    for (int k : NEAR_ENDS) {
                        whichOfOne(table, keys, which, k);
                    }
                }
            }
        }
    }

    /** The same by hand: the answers above come from this file, these from the document alone. */
    private static void whichByHand() {
        about("promise 21, nothing is ahead of the smallest int nor behind the greatest one");
        String[] ofSmallest = {"-2147483648", "2147483647", "none", "-2147483648", "-2147483648",
            "2147483647"};
        String[] ofGreatest = {"-2147483648", "2147483647", "-2147483648", "2147483647",
            "2147483647", "none"};
        String[] turnedOfSmallest = {"2147483647", "-2147483648", "2147483647", "-2147483648",
            "-2147483648", "none"};
        String[] turnedOfGreatest = {"2147483647", "-2147483648", "none", "2147483647",
            "2147483647", "-2147483648"};
        for (int w = 0; w <= 5; w++) {
            int which = w;
            Pairpictures x = with(1, MIN, MAX);
            due(ofSmallest[w], "smallest, " + w, () -> x.key(1, which, MIN));
            due(ofGreatest[w], "greatest, " + w, () -> x.key(1, which, MAX));
            due(turnedOfSmallest[w], "smallest, down, " + w, () -> x.setKey(1, true, which, MIN));
            due(turnedOfGreatest[w], "greatest, down, " + w, () -> x.setKey(1, true, which, MAX));
            Pairpictures y = with(2, MIN, MAX);
            due(turnedOfSmallest[w], "smallest, turned, " + w, () -> y.key(2, which, MIN));
            due(turnedOfGreatest[w], "greatest, turned, " + w, () -> y.key(2, which, MAX));
            due(ofSmallest[w], "smallest, turned down, " + w, () -> y.setKey(2, true, which, MIN));
            due(ofGreatest[w], "greatest, turned down, " + w, () -> y.setKey(2, true, which, MAX));
        }
    }

    /** The smallest and the greatest int are neighbours where numbers wrap around, but not in a TABLE. */
    private static void pairsOf(int table, int key, int opposite) {
        String name = "TABLE " + table + ", KEY " + key + ": ";
        Pairpictures x = with(table, opposite);
        about("'What it is' 1, a KEY is any int, each at most once");
        due(false, name + "has", () -> x.has(table, key));
        due(NONE, name + "value", () -> x.value(table, key));
        due(MAX, name + "valueOr", () -> x.valueOr(table, key, MAX));
        due(false, name + "setHas", () -> x.setHas(table, true, key));
        due(NONE, name + "drop of none", () -> x.drop(table, key));
        due(false, name + "setDrop of none", () -> x.setDrop(table, false, key));
        due(NONE, name + "replace of none", () -> x.replace(table, key, 1));
        due(false, name + "swap of none", () -> x.swap(table, key, 7, 1));
        due(NONE, name + "putNew", () -> x.putNew(table, key, 20));
        due(20, name + "put", () -> x.put(table, key, 21));
        due(21, name + "replace", () -> x.replace(table, key, 22));
        due(true, name + "swap", () -> x.swap(table, key, 22, 23));
        due(2, name + "size", () -> x.size(table));
        due(true, name + "has then", () -> x.has(table, key));
        due(true, name + "setHas then", () -> x.setHas(table, false, key));
        due(false, name + "dropPair of another VALUE", () -> x.dropPair(table, key, 7));
        due(true, name + "dropPair", () -> x.dropPair(table, key, 23));
        due("{" + opposite + "=7}", name + "the other one stays", () -> x.text(table));
        x.put(table, key, 24);
        due(true, name + "setDrop", () -> x.setDrop(table, true, key));
        x.put(table, key, 25);
        due(25, name + "drop", () -> x.drop(table, key));
        due(7, name + "the VALUE of the other one", () -> x.value(table, opposite));
    }

    private static void pairsOfAll() {
        for (int table = 0; table <= 2; table++) {
            pairsOf(table, MIN, MAX);
            pairsOf(table, MAX, MIN);
        }
    }

    private static void order() {
        about("'What it is' 1, ORDER: the smaller KEY is ahead, of TABLE 2 the greater one");
        int[] mixed = {0, MAX, -1, MIN, MAX - 1, 1, MIN + 1};
        String up = "-2147483648 -2147483647 -1 0 1 2147483646 2147483647";
        String down = "2147483647 2147483646 1 0 -1 -2147483647 -2147483648";
        for (int table = 0; table <= 2; table++) {
            int asked = table;
            Pairpictures x = with(table, mixed);
            due(table == 2 ? down : up, "keys up", () -> x.keys(asked, false, false));
            due(table == 2 ? up : down, "keys up, back", () -> x.keys(asked, false, true));
            due(table == 2 ? up : down, "keys down", () -> x.keys(asked, true, false));
            due(table == 2 ? down : up, "keys down, back", () -> x.keys(asked, true, true));
        }
        about("'What it is' 1, as a text");
        Pairpictures x = with(0, MIN, MAX);
        x.put(0, MIN, NONE);
        x.put(0, MAX, 99);
        x.addAll(2, 0);
        due("{-2147483648=null, 2147483647=99}", "text", () -> x.text(0));
        due("{2147483647=99, -2147483648=null}", "text, turned", () -> x.text(2));
    }

    private static void pictures() {
        about("'What it is' 2, a PICTURE of the smallest or the greatest KEY");
        Pairpictures x = with(0, MIN, MAX);
        x.put(0, MAX, NONE);
        x.poll(0, false, 0);
        x.poll(0, true, 7);
        due(MIN, "keyOf the smallest", () -> x.keyOf(0));
        due(MAX, "keyOf the greatest", () -> x.keyOf(7));
        due("-2147483648=7", "textOf the smallest", () -> x.textOf(0));
        due("2147483647=null", "textOf the greatest", () -> x.textOf(7));
        due(-2147483641, "hashOf the smallest", () -> x.hashOf(0));
        due(MAX, "hashOf the greatest with NOTHING", () -> x.hashOf(7));
        due(false, "areAlike", () -> x.areAlike(0, 7));
        due(true, "areAlike, the same", () -> x.areAlike(7, 7));
        due("{}", "both went", () -> x.text(0));
    }

    private static void walkOf(int table, boolean isDown) {
        boolean isGreaterAhead = isDown != (table == 2);
        int ahead = isGreaterAhead ? MAX : MIN;
        int behind = isGreaterAhead ? MIN : MAX;
        Pairpictures x = with(table, MIN, 0, MAX);
        String name = "TABLE " + table + (isDown ? " down: " : " up: ");
        due(true, name + "walk", () -> x.walk(table, isDown));
        due(ahead, name + "first", () -> x.next(table));
        due(2, name + "dropLast of the first", () -> x.dropLast(table));
        due(0, name + "second", () -> x.next(table));
        due(behind, name + "third", () -> x.next(table));
        due(false, name + "isMore", () -> x.isMore(table));
        due("none", name + "end", () -> x.next(table));
        due(1, name + "dropLast of the last", () -> x.dropLast(table));
        due("0", name + "what stays", () -> x.keys(table, false, false));
    }

    private static void walks() {
        about("promises 38 to 41, a WALK from the smallest to the greatest KEY and back");
        for (int table = 0; table <= 2; table++) {
            walkOf(table, false);
            walkOf(table, true);
        }
        about("promise 32, setPoll of the smallest and the greatest KEY");
        Pairpictures x = with(2, MIN, MAX);
        due(MAX, "first up", () -> x.setPoll(2, false, false));
        due(MIN, "last up", () -> x.setPoll(2, false, true));
    }

    private static void sound(String name, Pairpictures x) {
        due(true, name, () -> x.isSound());
    }

    private static void isSound() {
        about("promise 44, those 1 less and 1 more, if they are ints");
        for (int table = 0; table <= 2; table++) {
            for (int[] keys : KEYS_OF_TABLES) {
                sound("TABLE " + table + " with " + keys.length + " KEYS", with(table, keys));
                Pairpictures x = with(table, keys);
                x.poll(table, false, 0);
                x.poll(table, true, 7);
                sound("their KEYS in PICTURES", x);
                x.empty(table);
                sound("their KEYS in PICTURES alone", x);
                due(0, "isSound tells no REFUSED", () -> x.house(2));
            }
        }
    }

    private static void hashes() {
        about("'What it is' 1, HASH of a pair: the digits that are unlike");
        Pairpictures x = new Pairpictures();
        x.put(0, MIN, 0);
        due(MIN, "smallest with 0", () -> x.hash(0));
        x.put(0, MIN, NONE);
        due(MIN, "smallest with NOTHING", () -> x.hash(0));
        x.put(0, MIN, 99);
        due(-2147483549, "smallest with 99", () -> x.hash(0));
        x.empty(0);
        x.put(0, MAX, 99);
        due(2147483548, "greatest with 99", () -> x.hash(0));
        x.put(0, MAX, NONE);
        due(MAX, "greatest with NOTHING", () -> x.hash(0));
        x.empty(0);
        x.put(0, -1, 99);
        due(-100, "-1 with 99", () -> x.hash(0));
        x.put(0, -1, 0);
        due(-1, "-1 with 0", () -> x.hash(0));
        about("'What it is' 1, HASH of a TABLE: together, wrapping around");
        hashOfTwo(-3, MAX, MAX - 1);
        hashOfTwo(MIN, MAX, 1);
        hashOfTwo(MAX, MAX - 1, 1);
        hashOfTwo(1, MIN, MIN + 1);
        hashOfTwo(MAX, MIN, -1);
        hashOfTwo(MIN, MIN + 1, -1);
    }

    private static void hashOfTwo(int want, int key, int other) {
        for (int table = 0; table <= 2; table++) {
            int asked = table;
            Pairpictures x = new Pairpictures();
            x.put(table, key, NONE);
            x.put(table, other, NONE);
            due(want, "TABLE " + table + " of " + key + " and " + other, () -> x.hash(asked));
        }
    }

    private static BigInteger folded(BigInteger d, long v) {
        return d.multiply(BigInteger.valueOf(31)).add(BigInteger.valueOf(v));
    }

    private static BigInteger folded(BigInteger d, String text) {
        for (char sign : text.toCharArray()) {
            d = folded(d, sign);
        }
        return d;
    }

    private static BigInteger tableFolded(BigInteger d, int size, int hash, String... texts) {
        d = folded(folded(d, size), hash);
        for (String text : texts) {
            d = folded(d, text);
        }
        return d;
    }

    /** The checksum as a whole number without an end, of which the lowest 64 binary digits are due. */
    private static void digest() {
        about("promise 45, d wraps around as a 64-bit integer");
        BigInteger none = BigInteger.valueOf(7782);
        for (int what = 0; what <= 4; what++) {
            none = folded(none, 0);
        }
        for (int table = 0; table <= 2; table++) {
            none = tableFolded(none, 0, 0, "{}", "none", "none", "none", "none");
        }
        for (int v : new int[] {0, 0, 0, 0, 0, 0, 0, 0, 1, 1, 1, 1}) {
            none = folded(none, v);
        }
        due(none.longValue(), "of a new object", () -> new Pairpictures().digest());
        if (none.bitLength() <= 64) {
            fault("this number does not wrap around");
        }

        Pairpictures x = new Pairpictures();
        x.put(0, MIN, NONE);
        x.put(0, MAX, 99);
        x.put(2, MAX, 99);
        x.put(2, MIN, NONE);
        x.picture(0, 0, 0, 0);
        x.picture(0, 1, 0, 7);
        String least = "-2147483648";
        String most = "2147483647";
        BigInteger d = BigInteger.valueOf(7782);
        for (int v : new int[] {4, 2, 0, 0, 0}) {
            d = folded(d, v);
        }
        int hash = MIN + 2147483548;
        d = tableFolded(d, 2, hash, "{-2147483648=null, 2147483647=99}", least, least, most, most);
        d = tableFolded(d, 0, 0, "{}", "none", "none", "none", "none");
        d = tableFolded(d, 2, hash, "{2147483647=99, -2147483648=null}", most, most, least, least);
        for (int v : new int[] {1, MIN, NONE, MIN, 0, 0, 0, 0, 0, 0, 1, MAX, 99, 2147483548}) {
            d = folded(d, v);
        }
        for (int v : new int[] {0, 1, 0, 1}) {
            d = folded(d, v);
        }
        long want = d.longValue();
        due(want, "of the smallest and the greatest KEYS", () -> x.digest());
    }

    public static void main(String[] args) {
        whichOfAll();
        whichByHand();
        pairsOfAll();
        order();
        pictures();
        walks();
        isSound();
        hashes();
        digest();
        end("boundaries of keys");
    }
}

/** NOTHING beside no pair, a TABLE without pairs, a TABLE with itself, objects beside each other. */
public final class BoundaryTables extends Sentences {
    private static final String FULL = "{1=10, 3=null, 5=50, 9=7}";
    private static final String TURNED = "{9=7, 5=50, 3=null, 1=10}";

    private static String full(int table) {
        return table == 2 ? TURNED : FULL;
    }

    // ---- NOTHING beside no pair: KEY 3 has NOTHING, KEY 4 is not there

    private static void nothing(int promise, Object ofNothing, Object ofNoPair, String name,
            KeyCall call) {
        about("promise " + promise + ", NOTHING beside no pair");
        for (int table = 0; table <= 2; table++) {
            int asked = table;
            due(ofNothing, name + " of NOTHING", () -> call.on(filled(asked), asked, 3));
            due(ofNoPair, name + " of no pair", () -> call.on(filled(asked), asked, 4));
        }
    }

    private interface KeyCall {
        Object on(Pairpictures x, int table, int key);
    }

    private static void nothingAnswers() {
        nothing(2, -1, -1, "put", (x, t, k) -> x.put(t, k, 5));
        nothing(3, -1, -1, "putNew", (x, t, k) -> x.putNew(t, k, 5));
        nothing(4, -1, -1, "replace", (x, t, k) -> x.replace(t, k, 5));
        nothing(5, true, false, "swap from NOTHING", (x, t, k) -> x.swap(t, k, NONE, 5));
        nothing(5, true, false, "swap to NOTHING", (x, t, k) -> x.swap(t, k, NONE, NONE));
        nothing(5, false, false, "swap from a number", (x, t, k) -> x.swap(t, k, 0, NONE));
        nothing(6, -1, -1, "drop", (x, t, k) -> x.drop(t, k));
        nothing(7, true, false, "dropPair", (x, t, k) -> x.dropPair(t, k, NONE));
        nothing(7, false, false, "dropPair of a number", (x, t, k) -> x.dropPair(t, k, 0));
        nothing(11, -1, -1, "value", (x, t, k) -> x.value(t, k));
        nothing(12, -1, 1000, "valueOr", (x, t, k) -> x.valueOr(t, k, 1000));
        nothing(12, -1, -9, "valueOr with -9", (x, t, k) -> x.valueOr(t, k, -9));
        nothing(12, -1, -1, "valueOr with NONE", (x, t, k) -> x.valueOr(t, k, NONE));
        nothing(13, true, false, "has", (x, t, k) -> x.has(t, k));
        nothing(31, "3", "3", "setKey", (x, t, k) -> x.setKey(t, t == 2, 3, k));
        nothing(33, true, false, "setDrop", (x, t, k) -> x.setDrop(t, true, k));
        nothing(35, true, false, "setHas", (x, t, k) -> x.setHas(t, true, k));
    }

    private static Object then(Object first, Object second) {
        return second;
    }

    private static void nothingThen() {
        nothing(2, 4, 5, "size after put", (x, t, k) -> then(x.put(t, k, 5), x.size(t)));
        nothing(2, true, true, "has after put of NOTHING",
                (x, t, k) -> then(x.put(t, k, NONE), x.has(t, k)));
        nothing(3, 5, 5, "value after putNew", (x, t, k) -> then(x.putNew(t, k, 5), x.value(t, k)));
        nothing(3, true, true, "has after putNew of NOTHING",
                (x, t, k) -> then(x.putNew(t, k, NONE), x.has(t, k)));
        nothing(4, 5, -1, "value after replace",
                (x, t, k) -> then(x.replace(t, k, 5), x.value(t, k)));
        nothing(4, true, false, "has after replace",
                (x, t, k) -> then(x.replace(t, k, 5), x.has(t, k)));
        nothing(5, 5, -1, "value after swap",
                (x, t, k) -> then(x.swap(t, k, NONE, 5), x.value(t, k)));
        nothing(5, true, false, "has after swap",
                (x, t, k) -> then(x.swap(t, k, NONE, 5), x.has(t, k)));
        nothing(6, 3, 4, "size after drop", (x, t, k) -> then(x.drop(t, k), x.size(t)));
        nothing(7, 3, 4, "size after dropPair",
                (x, t, k) -> then(x.dropPair(t, k, NONE), x.size(t)));
        nothing(33, 3, 4, "size after setDrop", (x, t, k) -> then(x.setDrop(t, true, k), x.size(t)));
    }

    private static void nothingOfTables() {
        for (int table = 0; table <= 2; table++) {
            int t = table;
            Pairpictures x = new Pairpictures();
            about("promise 14, a pair has NOTHING, or none has it");
            due(false, "hasValue of an empty TABLE", () -> x.hasValue(t, NONE));
            x.put(t, 4, 0);
            due(false, "hasValue of numbers", () -> x.hasValue(t, NONE));
            x.put(t, 4, NONE);
            due(true, "hasValue", () -> x.hasValue(t, NONE));
            due(false, "hasValue of 0", () -> x.hasValue(t, 0));
            about("promises 15 to 17, a pair with NOTHING is a pair");
            due(1, "size", () -> x.size(t));
            due(false, "isEmpty", () -> x.isEmpty(t));
            due("{4=null}", "text", () -> x.text(t));
            about("promise 10, from NOTHING and to NOTHING");
            due(-1, "rewrite from NOTHING", () -> x.rewrite(t, 0, 99));
            due(99, "rewrite to NOTHING", () -> x.rewrite(t, 0, NONE));
            due(-1, "rewrite of NOTHING", () -> x.rewrite(t, 0, NONE));
        }
    }

    private static void nothingBesideZero() {
        about("promises 18, 19, 28 and 30, NOTHING beside 0: the same HASH, but not the same VALUE");
        Pairpictures x = new Pairpictures();
        x.put(0, 4, NONE);
        x.put(1, 4, 0);
        due(4, "hash of NOTHING", () -> x.hash(0));
        due(4, "hash of 0", () -> x.hash(1));
        due(false, "isSame", () -> x.isSame(0, 1));
        due(false, "isSame, turned about", () -> x.isSame(1, 0));
        due(false, "isSame, NOTHING and no pair", () -> x.isSame(0, 2));
        due(false, "isSame, no pair and NOTHING", () -> x.isSame(2, 0));
        x.picture(0, 0, 0, 0);
        x.picture(1, 0, 0, 1);
        due(4, "hashOf NOTHING", () -> x.hashOf(0));
        due(4, "hashOf 0", () -> x.hashOf(1));
        due(false, "areAlike", () -> x.areAlike(0, 1));
        due(-1, "valueOf NOTHING", () -> x.valueOf(0));
        due("4=null", "textOf NOTHING", () -> x.textOf(0));
        due(false, "dropPair of NOTHING where 0 is", () -> x.dropPair(1, 4, NONE));
        due(false, "swap of NOTHING where 0 is", () -> x.swap(1, 4, NONE, 1));
        due(0, "putNew where 0 is", () -> x.putNew(1, 4, 1));
        x.put(2, 4, NONE);
        due(true, "isSame, both NOTHING", () -> x.isSame(0, 2));
    }

    private static void nothingAdded() {
        about("promise 9, a pair with NOTHING comes in place of one with the same KEY");
        Pairpictures x = new Pairpictures();
        x.put(0, 4, NONE);
        x.put(2, 4, 99);
        x.put(2, 5, NONE);
        due(2, "addAll", () -> x.addAll(2, 0));
        due("{5=null, 4=null}", "text", () -> x.text(2));
        due(2, "addAll back", () -> x.addAll(0, 2));
        due("{4=null, 5=null}", "text back", () -> x.text(0));
    }

    // ---- a TABLE without pairs

    private interface Emptier {
        void on(Pairpictures x, int table);
    }

    private static Pairpictures emptied(int table, Emptier emptier) {
        Pairpictures x = new Pairpictures();
        x.put((table + 1) % 3, 1, 1);
        x.put(table, 2, 20);
        emptier.on(x, table);
        return x;
    }

    private static void emptyTables() {
        for (int table = 0; table <= 2; table++) {
            int t = table;
            Pairpictures x = new Pairpictures();
            x.put((table + 1) % 3, 1, 1);
            emptyTable("never filled, ", x, table);
            emptyTable("empty, ", emptied(t, (y, of) -> y.empty(of)), t);
            emptyTable("drop, ", emptied(t, (y, of) -> y.drop(of, 2)), t);
            emptyTable("dropPair, ", emptied(t, (y, of) -> y.dropPair(of, 2, 20)), t);
            emptyTable("poll first, ", emptied(t, (y, of) -> y.poll(of, false, 5)), t);
            emptyTable("poll last, ", emptied(t, (y, of) -> y.poll(of, true, 5)), t);
            emptyTable("setPoll first, ", emptied(t, (y, of) -> y.setPoll(of, false, false)), t);
            emptyTable("setPoll last, ", emptied(t, (y, of) -> y.setPoll(of, true, true)), t);
            emptyTable("setDrop, ", emptied(t, (y, of) -> y.setDrop(of, true, 2)), t);
            emptyTable("dropLast, ", emptied(t, (y, of) -> {
                y.walk(of, true);
                y.next(of);
                y.dropLast(of);
            }), t);
        }
    }

    private static void emptyTable(String how, Pairpictures x, int table) {
        emptyNumbers(how, x, table);
        emptyKeys(how, x, table);
        emptyPolls(how, x, table);
        emptyWalk(how, x, table);
        emptyChanges(how, x, table);
    }

    private static void emptyNumbers(String how, Pairpictures x, int t) {
        about("promises 11 to 20, an empty TABLE");
        due("{}", how + "text", () -> x.text(t));
        due(0, how + "hash", () -> x.hash(t));
        due(0, how + "size", () -> x.size(t));
        due(true, how + "isEmpty", () -> x.isEmpty(t));
        due(-1, how + "value", () -> x.value(t, 2));
        due(5, how + "valueOr", () -> x.valueOr(t, 2, 5));
        due(false, how + "has", () -> x.has(t, 2));
        due(false, how + "hasValue", () -> x.hasValue(t, 20));
        due(true, how + "isSame with itself", () -> x.isSame(t, t));
        due(true, how + "isSame with another empty one", () -> x.isSame(t, (t + 2) % 3));
        due(false, how + "isSame with a filled one", () -> x.isSame(t, (t + 1) % 3));
        due(false, how + "isSame of a filled one", () -> x.isSame((t + 1) % 3, t));
        due(t == 2, how + "isTurned", () -> x.isTurned(t));
        about("promises 35 to 37, an empty SET");
        for (boolean isDown : new boolean[] {false, true}) {
            due(false, how + "setHas", () -> x.setHas(t, isDown, 2));
            due(0, how + "setSize", () -> x.setSize(t, isDown));
            due("", how + "keys", () -> x.keys(t, isDown, false));
            due("", how + "keys back", () -> x.keys(t, isDown, true));
        }
        due(true, how + "isSound", () -> x.isSound());
    }

    private static void emptyKeys(String how, Pairpictures x, int t) {
        for (int w = 0; w <= 5; w++) {
            int which = w;
            String want = w <= 1 ? "!" : "none";
            int told = x.house(2);
            for (int key : new int[] {MIN, 2, MAX}) {
                about("promise 21, of FIRST and LAST \"!\" if there is none, otherwise \"none\"");
                due(want, how + "key " + w, () -> x.key(t, which, key));
                about("promise 31, of FIRST and LAST \"!\" if there is none, otherwise \"none\"");
                due(want, how + "setKey up " + w, () -> x.setKey(t, false, which, key));
                due(want, how + "setKey down " + w, () -> x.setKey(t, true, which, key));
                about("promise 22, it is none, if there is no such pair");
                x.picture((t + 1) % 3, 0, 0, 4);
                due(false, how + "picture " + w, () -> x.picture(t, which, key, 4));
                due(false, how + "isThere " + w, () -> x.isThere(4));
            }
            about("REFUSED is counted, \"none\" is not");
            due(w <= 1 ? told + 9 : told, how + "how often, " + w, () -> x.house(2));
        }
    }

    private static void emptyPolls(String how, Pairpictures x, int t) {
        int told = x.house(2);
        for (boolean isLast : new boolean[] {false, true}) {
            about("promise 23, the PICTURE is none if there was no pair");
            x.picture((t + 1) % 3, 0, 0, 4);
            due(false, how + "poll", () -> x.poll(t, isLast, 4));
            due(false, how + "isThere", () -> x.isThere(4));
            about("promise 32, \"none\" if there is none");
            due("none", how + "setPoll up", () -> x.setPoll(t, false, isLast));
            due("none", how + "setPoll down", () -> x.setPoll(t, true, isLast));
        }
        about("promises 23 and 32, that is no REFUSED");
        due(told, how + "how often", () -> x.house(2));
    }

    private static void emptyWalk(String how, Pairpictures x, int t) {
        for (boolean isDown : new boolean[] {false, true}) {
            int told = x.house(2);
            about("promise 38, no KEY comes next");
            due(false, how + "walk", () -> x.walk(t, isDown));
            about("promise 39, it is at its end");
            due(false, how + "isMore", () -> x.isMore(t));
            about("promise 40, \"none\" at its end");
            due("none", how + "next", () -> x.next(t));
            due(told, how + "no REFUSED with it", () -> x.house(2));
            about("promise 41, it told none since it was begun");
            due(REFUSED, how + "dropLast", () -> x.dropLast(t));
            due(told + 1, how + "REFUSED with it", () -> x.house(2));
        }
    }

    private static void emptyChanges(String how, Pairpictures x, int t) {
        about("promises 4 to 10, there is no pair in an empty TABLE");
        due(-1, how + "replace", () -> x.replace(t, 2, 5));
        due(false, how + "swap", () -> x.swap(t, 2, NONE, 5));
        due(-1, how + "drop", () -> x.drop(t, 2));
        due(false, how + "dropPair", () -> x.dropPair(t, 2, NONE));
        due(false, how + "setDrop", () -> x.setDrop(t, false, 2));
        due(0, how + "empty", () -> x.empty(t));
        due(0, how + "addAll of itself", () -> x.addAll(t, t));
        due(0, how + "addAll of another empty one", () -> x.addAll(t, (t + 2) % 3));
        due(NO_PLACE, how + "rewrite", () -> x.rewrite(t, 0, 5));
        due("{}", how + "text then", () -> x.text(t));
        about("promise 9, how many it has then");
        due(1, how + "addAll of an empty one", () -> x.addAll((t + 1) % 3, t));
        due(1, how + "addAll to an empty one", () -> x.addAll(t, (t + 1) % 3));
        due("{1=1}", how + "text after that", () -> x.text(t));
    }

    // ---- one pair, a TABLE with itself, objects

    private static void onePair() {
        about("'What it is' 1, the only pair is the FIRST one and the LAST one");
        for (int table = 0; table <= 2; table++) {
            int t = table;
            Pairpictures x = new Pairpictures();
            x.put(t, 4, 0);
            for (int which : new int[] {0, 1, 3, 4}) {
                due("4", "key " + which, () -> x.key(t, which, 4));
                due("4", "setKey " + which, () -> x.setKey(t, true, which, 4));
            }
            due("none", "BEFORE it", () -> x.key(t, 2, 4));
            due("none", "BEHIND it", () -> x.key(t, 5, 4));
            due("{4=0}", "text, without \", \"", () -> x.text(t));
            due("4", "keys, without \" \"", () -> x.keys(t, true, true));
            due("4", "setPoll", () -> x.setPoll(t, true, true));
            due(0, "size then", () -> x.size(t));
        }
    }

    private static void withItself() {
        for (int table = 0; table <= 2; table++) {
            int t = table;
            about("promise 9, all pairs of the same TABLE");
            changesNothing(4, "addAll", () -> filled(t), x -> x.addAll(t, t), 0);
            changesNothing(0, "addAll, empty", Pairpictures::new, x -> x.addAll(t, t), 0);
            due(full(t), "text", () -> {
                Pairpictures x = filled(t);
                x.addAll(t, t);
                return x.text(t);
            });
            about("promise 19, a TABLE and itself have the same pairs");
            changesNothing(true, "isSame", () -> filled(t), x -> x.isSame(t, t), 0);
            changesNothing(true, "isSame, empty", Pairpictures::new, x -> x.isSame(t, t), 0);
            changesNothing(true, "isSame, something of everything", Sentences::rich,
                    x -> x.isSame(t, t), 0);
        }
        about("promise 30, a PICTURE and itself");
        for (int slot : new int[] {0, 3, 7}) {
            changesNothing(true, "areAlike of " + slot, Sentences::rich,
                    x -> x.areAlike(slot, slot), 0);
        }
    }

    private static void tablesApart() {
        about("'What it is' 1, TABLES 0 to 2 are kept apart");
        for (int table = 0; table <= 2; table++) {
            int t = table;
            int next = (table + 1) % 3;
            int last = (table + 2) % 3;
            Pairpictures x = new Pairpictures();
            fill(x, 0);
            fill(x, 1);
            fill(x, 2);
            due(4, "empty", () -> x.empty(t));
            due(full(next), "the next TABLE", () -> x.text(next));
            due(full(last), "the last TABLE", () -> x.text(last));
            x.addAll(t, next);
            x.put(t, 5, 51);
            x.drop(t, 1);
            due(full(next), "the TABLE whose pairs came", () -> x.text(next));
            due(true, "both others are the same", () -> x.isSame(next, last));
        }
        about("promise 1, a new object has three TABLES without pairs, whatever others have");
        Pairpictures full = rich();
        String before = shown(full);
        Pairpictures other = new Pairpictures();
        other.put(0, 77, 7);
        other.knock();
        other.setAdd(0, true, 1);
        other.empty(0);
        Pairpictures third = rich();
        due(before, "the objects are kept apart", () -> shown(third));
        due(1, "REFUSED of the other", () -> other.house(2));
        due(1, "knocks of the other", () -> other.house(3));
    }

    private static void pictureStays() {
        about("'What it is' 2, a PICTURE is the pair that it showed as it was taken");
        Pairpictures x = filled(0);
        x.picture(0, 3, 5, 0);
        x.picture(0, 3, 3, 7);
        x.put(0, 5, NONE);
        due("5=50", "another VALUE by put", () -> x.textOf(0));
        x.rewrite(0, 1, 33);
        due("3=null", "another VALUE by rewrite", () -> x.textOf(7));
        x.drop(0, 5);
        due("5=50", "the pair went", () -> x.textOf(0));
        x.put(0, 5, 60);
        due("5=50", "the KEY came again", () -> x.textOf(0));
        x.picture(0, 3, 5, 6);
        due("5=50", "another PICTURE was taken", () -> x.textOf(0));
        due(false, "both have the same KEY, but not the same VALUE", () -> x.areAlike(0, 6));
        x.picture(0, 5, 9, 6);
        due(false, "the other one is none", () -> x.isThere(6));
        due(true, "this one is still one", () -> x.isThere(0));
        x.empty(0);
        due(50, "all pairs went", () -> x.valueOf(0));
        x.picture(0, 0, 0, 0);
        due(BAD_STATE, "it is none then", () -> x.valueOf(0));
    }

    public static void main(String[] args) {
        nothingAnswers();
        nothingThen();
        nothingOfTables();
        nothingBesideZero();
        nothingAdded();
        emptyTables();
        onePair();
        withItself();
        tablesApart();
        pictureStays();
        end("boundaries of tables");
    }
}

/**
 * Each sentence "Throws .. if": the arguments next to the border on both sides and the farthest
 * ones; which exception is thrown if two apply; and that a method that throws changes nothing.
 */
public final class BoundaryArguments extends Sentences {
    /** A call with the one argument that is looked at. */
    private interface Argument {
        Object on(Pairpictures x, int argument);
    }

    private static void refusedEach(String want, String name, Argument call, int... arguments) {
        for (int argument : arguments) {
            throwsOnly(want, name + " with " + argument, Sentences::rich,
                    x -> call.on(x, argument));
        }
    }

    private static void takenEach(String name, Argument call, int... arguments) {
        for (int argument : arguments) {
            String got = told(() -> call.on(rich(), argument));
            if (got.equals(NO_PLACE) || got.equals(BAD)) {
                fault(name + " with " + argument + " answered " + got);
            }
        }
    }

    private static void table(int promise, String name, Argument call) {
        about("promise " + promise + ", IndexOutOfBoundsException if there is no such TABLE");
        refusedEach(NO_PLACE, name, call, -1, 3, MIN, MAX);
        takenEach(name, call, 0, 1, 2);
    }

    private static void slot(int promise, String name, Argument call) {
        about("promise " + promise + ", IndexOutOfBoundsException if there is no such PICTURE");
        refusedEach(NO_PLACE, name, call, -1, 8, MIN, MAX);
        takenEach(name, call, 0, 1, 2, 3, 4, 5, 6, 7);
    }

    private static void value(int promise, String name, Argument call) {
        about("promise " + promise + ", IllegalArgumentException if value is not NONE to 99");
        refusedEach(BAD, name, call, -2, 100, REFUSED, MIN, MAX);
        takenEach(name, call, NONE, 0, 1, 98, 99);
    }

    private static void which(int promise, String name, Argument call) {
        about("promise " + promise + ", IllegalArgumentException if which is not 0 to 5");
        refusedEach(BAD, name, call, -1, 6, MIN, MAX);
        takenEach(name, call, 0, 1, 2, 3, 4, 5);
    }

    private static void none(int promise, String name, Argument call) {
        about("promise " + promise + ", IllegalStateException if it is none");
        for (int slot = 0; slot <= 7; slot++) {
            int none = slot;
            throwsOnly(BAD_STATE, name + ", never taken, of " + slot, () -> filled(0),
                    x -> call.on(x, none));
            throwsOnly(BAD_STATE, name + ", none again, of " + slot, () -> noneAgain(none),
                    x -> call.on(x, none));
        }
    }

    /** A picture that was one, and became none as a pair that is not there was asked for. */
    private static Pairpictures noneAgain(int slot) {
        Pairpictures x = rich();
        x.picture(0, 0, 0, slot);
        x.picture(0, 2, 1, slot);
        return x;
    }

    private static void noWalk(int promise, String name, Argument call) {
        about("promise " + promise + ", IllegalStateException if it has no WALK");
        for (int table = 0; table <= 2; table++) {
            int asked = table;
            throwsOnly(BAD_STATE, name + ", no WALK at all, of " + table, () -> filled(asked),
                    x -> call.on(x, asked));
            throwsOnly(BAD_STATE, name + ", the others have one, of " + table,
                    () -> walksBesides(asked), x -> call.on(x, asked));
        }
    }

    private static Pairpictures walksBesides(int table) {
        Pairpictures x = filled(table);
        fill(x, (table + 1) % 3);
        x.walk((table + 1) % 3, false);
        x.next((table + 1) % 3);
        x.walk((table + 2) % 3, true);
        return x;
    }

    private static void tablesOfPairs() {
        table(2, "put", (x, t) -> x.put(t, 5, 1));
        table(3, "putNew", (x, t) -> x.putNew(t, 4, 1));
        table(4, "replace", (x, t) -> x.replace(t, 5, 1));
        table(5, "swap", (x, t) -> x.swap(t, 5, 50, 1));
        table(6, "drop", (x, t) -> x.drop(t, 5));
        table(7, "dropPair", (x, t) -> x.dropPair(t, 5, 50));
        table(8, "empty", (x, t) -> x.empty(t));
        table(9, "addAll", (x, t) -> x.addAll(t, 0));
        table(9, "addAll, other", (x, t) -> x.addAll(1, t));
        table(11, "value", (x, t) -> x.value(t, 5));
        table(12, "valueOr", (x, t) -> x.valueOr(t, 5, 1));
        table(13, "has", (x, t) -> x.has(t, 5));
        table(14, "hasValue", (x, t) -> x.hasValue(t, 50));
        table(15, "size", (x, t) -> x.size(t));
        table(16, "isEmpty", (x, t) -> x.isEmpty(t));
        table(17, "text", (x, t) -> x.text(t));
        table(18, "hash", (x, t) -> x.hash(t));
        table(19, "isSame", (x, t) -> x.isSame(t, 0));
        table(19, "isSame, other", (x, t) -> x.isSame(0, t));
        table(20, "isTurned", (x, t) -> x.isTurned(t));
    }

    private static void tablesOfKeys() {
        table(21, "key", (x, t) -> x.key(t, 3, 5));
        table(22, "picture", (x, t) -> x.picture(t, 0, 5, 6));
        table(23, "poll", (x, t) -> x.poll(t, true, 6));
        table(31, "setKey up", (x, t) -> x.setKey(t, false, 3, 5));
        table(31, "setKey down", (x, t) -> x.setKey(t, true, 3, 5));
        table(32, "setPoll up", (x, t) -> x.setPoll(t, false, true));
        table(32, "setPoll down", (x, t) -> x.setPoll(t, true, false));
        table(33, "setDrop up", (x, t) -> x.setDrop(t, false, 5));
        table(33, "setDrop down", (x, t) -> x.setDrop(t, true, 5));
        table(34, "setAdd up", (x, t) -> x.setAdd(t, false, 4));
        table(34, "setAdd down", (x, t) -> x.setAdd(t, true, 5));
        table(35, "setHas up", (x, t) -> x.setHas(t, false, 5));
        table(35, "setHas down", (x, t) -> x.setHas(t, true, 5));
        table(36, "setSize up", (x, t) -> x.setSize(t, false));
        table(36, "setSize down", (x, t) -> x.setSize(t, true));
        table(37, "keys up", (x, t) -> x.keys(t, false, false));
        table(37, "keys down, back", (x, t) -> x.keys(t, true, true));
        table(38, "walk up", (x, t) -> x.walk(t, false));
        table(38, "walk down", (x, t) -> x.walk(t, true));
        table(39, "isMore", (x, t) -> x.isMore(t));
        table(40, "next", (x, t) -> x.next(t));
        table(41, "dropLast", (x, t) -> x.dropLast(t));
    }

    private static void slots() {
        slot(22, "picture", (x, s) -> x.picture(0, 1, 5, s));
        slot(22, "picture of no pair", (x, s) -> x.picture(1, 1, 5, s));
        slot(23, "poll", (x, s) -> x.poll(0, false, s));
        slot(23, "poll of no pair", (x, s) -> x.poll(1, false, s));
        slot(24, "isThere", (x, s) -> x.isThere(s));
        slot(25, "keyOf", (x, s) -> x.keyOf(s));
        slot(26, "valueOf", (x, s) -> x.valueOf(s));
        slot(27, "textOf", (x, s) -> x.textOf(s));
        slot(28, "hashOf", (x, s) -> x.hashOf(s));
        slot(29, "writeTo", (x, s) -> x.writeTo(s, 5));
        slot(30, "areAlike", (x, s) -> x.areAlike(s, 0));
        slot(30, "areAlike, other", (x, s) -> x.areAlike(0, s));
    }

    private static void values() {
        value(2, "put", (x, v) -> x.put(0, 5, v));
        value(2, "put a new KEY", (x, v) -> x.put(0, 4, v));
        value(3, "putNew", (x, v) -> x.putNew(0, 4, v));
        value(3, "putNew over NOTHING", (x, v) -> x.putNew(0, 3, v));
        value(3, "putNew, though there is a VALUE", (x, v) -> x.putNew(0, 5, v));
        value(4, "replace", (x, v) -> x.replace(0, 5, v));
        value(4, "replace, though there is no pair", (x, v) -> x.replace(0, 4, v));
        value(5, "swap", (x, v) -> x.swap(0, 5, 50, v));
        value(5, "swap, though it has another VALUE", (x, v) -> x.swap(0, 5, 51, v));
        value(5, "swap, though there is no pair", (x, v) -> x.swap(0, 4, NONE, v));
        value(5, "swap, old", (x, v) -> x.swap(0, 5, v, 1));
        value(5, "swap, old, though there is no pair", (x, v) -> x.swap(0, 4, v, 1));
        value(5, "swap, old and value", (x, v) -> x.swap(0, 5, v, v));
        value(7, "dropPair", (x, v) -> x.dropPair(0, 5, v));
        value(7, "dropPair, though there is no pair", (x, v) -> x.dropPair(0, 4, v));
        value(10, "rewrite", (x, v) -> x.rewrite(0, 0, v));
        value(14, "hasValue", (x, v) -> x.hasValue(0, v));
        value(14, "hasValue of an empty TABLE", (x, v) -> x.hasValue(1, v));
        value(29, "writeTo", (x, v) -> x.writeTo(0, v));
    }

    private static void whichs() {
        which(21, "key", (x, w) -> x.key(0, w, 5));
        which(21, "key of an empty TABLE", (x, w) -> x.key(1, w, 5));
        which(22, "picture", (x, w) -> x.picture(0, w, 5, 0));
        which(22, "picture of an empty TABLE", (x, w) -> x.picture(1, w, 5, 0));
        which(31, "setKey up", (x, w) -> x.setKey(0, false, w, 5));
        which(31, "setKey down", (x, w) -> x.setKey(2, true, w, 5));
        which(31, "setKey up of an empty TABLE", (x, w) -> x.setKey(1, false, w, 5));
        which(31, "setKey down of an empty TABLE", (x, w) -> x.setKey(1, true, w, 5));
    }

    private static void places() {
        about("promise 10, IndexOutOfBoundsException if there is no such place");
        for (int table = 0; table <= 2; table += 2) {
            int asked = table;
            Argument call = (x, place) -> x.rewrite(asked, place, 1);
            refusedEach(NO_PLACE, "rewrite in TABLE " + table, call, -1, 4, 511, 512, MIN, MAX);
            takenEach("rewrite in TABLE " + table, call, 0, 1, 2, 3);
        }
        refusedEach(NO_PLACE, "rewrite in an empty TABLE", (x, place) -> x.rewrite(1, place, 1),
                -1, 0, 1, 511, 512, MIN, MAX);
        Pairpictures x = filled(0);
        x.drop(0, 1);
        due(NO_PLACE, "a place that is no more", () -> x.rewrite(0, 3, 1));
        x.put(0, MAX, 33);
        due(33, "a place that is again", () -> x.rewrite(0, 3, 1));
        x.empty(0);
        due(NO_PLACE, "a place of a TABLE that was emptied", () -> x.rewrite(0, 0, 1));
    }

    private static void whats() {
        about("promise 42, IllegalArgumentException if what is not 0 to 4");
        refusedEach(BAD, "house", (x, what) -> x.house(what), -1, 5, MIN, MAX);
        takenEach("house", (x, what) -> x.house(what), 0, 1, 2, 3, 4);
    }

    private static void states() {
        none(25, "keyOf", (x, s) -> x.keyOf(s));
        none(26, "valueOf", (x, s) -> x.valueOf(s));
        none(27, "textOf", (x, s) -> x.textOf(s));
        none(28, "hashOf", (x, s) -> x.hashOf(s));
        none(29, "writeTo", (x, s) -> x.writeTo(s, 1));
        none(30, "areAlike, both none", (x, s) -> x.areAlike(s, s));
        noWalk(39, "isMore", (x, t) -> x.isMore(t));
        noWalk(40, "next", (x, t) -> x.next(t));
        noWalk(41, "dropLast", (x, t) -> x.dropLast(t));
        about("promise 30, IllegalStateException if one of both is none");
        for (int taken : new int[] {0, 7}) {
            throwsOnly(BAD_STATE, "areAlike, the first is none, beside " + taken, Sentences::rich,
                    x -> x.areAlike(6, taken));
            throwsOnly(BAD_STATE, "areAlike, the other is none, beside " + taken, Sentences::rich,
                    x -> x.areAlike(taken, 6));
        }
    }

    private static void first(String want, String name, Call call) {
        about("If several exceptions apply, the one that is named first is thrown");
        throwsOnly(want, name, Sentences::rich, call);
    }

    private static void tableAheadOfValue() {
        first(NO_PLACE, "put: TABLE, value", x -> x.put(3, 5, 100));
        first(NO_PLACE, "putNew: TABLE, value", x -> x.putNew(-1, 5, -2));
        first(NO_PLACE, "replace: TABLE, value", x -> x.replace(3, 5, 100));
        first(NO_PLACE, "swap: TABLE, old", x -> x.swap(3, 5, 100, 1));
        first(NO_PLACE, "swap: TABLE, value", x -> x.swap(-1, 5, 50, -2));
        first(NO_PLACE, "swap: TABLE, old, value", x -> x.swap(3, 5, -2, 100));
        first(NO_PLACE, "dropPair: TABLE, value", x -> x.dropPair(3, 5, 100));
        first(NO_PLACE, "rewrite: TABLE, place", x -> x.rewrite(3, 4, 1));
        first(NO_PLACE, "rewrite: TABLE, value", x -> x.rewrite(-1, 0, 100));
        first(NO_PLACE, "rewrite: TABLE, place, value", x -> x.rewrite(3, 4, 100));
        first(NO_PLACE, "rewrite: place too great, value", x -> x.rewrite(0, 4, 100));
        first(NO_PLACE, "rewrite: place too small, value", x -> x.rewrite(0, -1, -2));
        first(NO_PLACE, "rewrite: place of an empty TABLE, value", x -> x.rewrite(1, 0, 100));
        first(NO_PLACE, "hasValue: TABLE, value", x -> x.hasValue(3, 100));
    }

    private static void tableAheadOfWhich() {
        first(NO_PLACE, "key: TABLE, which", x -> x.key(3, 6, 5));
        first(NO_PLACE, "picture: TABLE, which", x -> x.picture(-1, 6, 5, 0));
        first(NO_PLACE, "picture: TABLE, PICTURE", x -> x.picture(3, 0, 5, 8));
        first(NO_PLACE, "picture: PICTURE too great, which", x -> x.picture(0, 6, 5, 8));
        first(NO_PLACE, "picture: PICTURE too small, which", x -> x.picture(0, -1, 5, -1));
        first(NO_PLACE, "poll: TABLE, PICTURE", x -> x.poll(3, true, 8));
        first(NO_PLACE, "setKey: TABLE, which", x -> x.setKey(3, false, 6, 5));
        first(NO_PLACE, "setKey down: TABLE, which", x -> x.setKey(-1, true, -1, 5));
    }

    private static void aheadOfStates() {
        first(NO_PLACE, "writeTo: PICTURE, value", x -> x.writeTo(8, 100));
        first(NO_PLACE, "writeTo: PICTURE too small, value", x -> x.writeTo(-1, -2));
        first(BAD, "writeTo: value too great, none", x -> x.writeTo(6, 100));
        first(BAD, "writeTo: value too small, none", x -> x.writeTo(6, -2));
        first(NO_PLACE, "areAlike: PICTURE, the other is none", x -> x.areAlike(8, 6));
        first(NO_PLACE, "areAlike: the first is none, other PICTURE", x -> x.areAlike(6, 8));
        first(NO_PLACE, "areAlike: the first is none, other -1", x -> x.areAlike(6, -1));
        first(NO_PLACE, "keyOf: a PICTURE that can't be one", x -> x.keyOf(8));
        first(NO_PLACE, "isMore: a TABLE that can't have a WALK", x -> x.isMore(3));
        first(NO_PLACE, "next: a TABLE that can't have a WALK", x -> x.next(3));
        first(NO_PLACE, "dropLast: a TABLE that can't have a WALK", x -> x.dropLast(-1));
    }

    private static void aheadOfRefusals() {
        about("REFUSED: exceptions go ahead of it");
        throwsOnly(BAD, "key of an empty TABLE, which 6", Sentences::rich, x -> x.key(1, 6, 0));
        throwsOnly(BAD, "setKey of an empty TABLE, which -1", Sentences::rich,
                x -> x.setKey(1, true, -1, 0));
        throwsOnly(NO_PLACE, "setAdd, no such TABLE", Sentences::rich, x -> x.setAdd(3, true, 5));
        throwsOnly(BAD_STATE, "writeTo, none", Sentences::rich, x -> x.writeTo(6, 1));
        throwsOnly(BAD, "writeTo, value 100", Sentences::rich, x -> x.writeTo(0, 100));
        throwsOnly(NO_PLACE, "writeTo, no such PICTURE", Sentences::rich, x -> x.writeTo(8, 1));
        throwsOnly(BAD_STATE, "next without a WALK", () -> filled(0), x -> x.next(0));
        throwsOnly(BAD_STATE, "dropLast without a WALK", () -> filled(0), x -> x.dropLast(0));
    }

    public static void main(String[] args) {
        tablesOfPairs();
        tablesOfKeys();
        slots();
        values();
        whichs();
        places();
        whats();
        states();
        tableAheadOfValue();
        tableAheadOfWhich();
        aheadOfStates();
        aheadOfRefusals();
        end("boundaries of arguments");
    }
}

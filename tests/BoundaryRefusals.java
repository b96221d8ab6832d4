/** REFUSED: told where the library refuses; nothing changes then, but it is counted. */
public final class BoundaryRefusals extends Sentences {
    private static void refused(Object want, String name, Maker maker, Call call) {
        changesNothing(want, name, maker, call, 1);
    }

    private static void notRefused(Object want, String name, Maker maker, Call call) {
        changesNothing(want, name, maker, call, 0);
    }

    private static Pairpictures lost(int table) {
        Pairpictures x = filled(table);
        x.walk(table, false);
        x.next(table);
        x.put(table, 4, 4);
        return x;
    }

    private static void ends() {
        for (int which = 0; which <= 1; which++) {
            int end = which;
            for (int key : new int[] {MIN, -1, 0, 5, MAX}) {
                about("promise 21, of FIRST and LAST \"!\" (REFUSED) if there is none");
                refused("!", "key " + end + " of " + key, Sentences::rich, x -> x.key(1, end, key));
                about("promise 31, of FIRST and LAST \"!\" (REFUSED) if there is none");
                refused("!", "setKey up " + end, Sentences::rich,
                        x -> x.setKey(1, false, end, key));
                refused("!", "setKey down " + end, Sentences::rich,
                        x -> x.setKey(1, true, end, key));
            }
            for (int table = 0; table <= 2; table++) {
                int t = table;
                about("promises 21 and 31, of each TABLE");
                refused("!", "key", Pairpictures::new, x -> x.key(t, end, 0));
                refused("!", "setKey", Pairpictures::new, x -> x.setKey(t, true, end, 0));
            }
        }
    }

    private static void sets() {
        about("promise 34, a KEY should come to a SET");
        for (int table = 0; table <= 2; table++) {
            int t = table;
            for (int key : new int[] {MIN, -1, 4, 5, MAX}) {
                refused(REFUSED, "setAdd up of " + key, Sentences::rich,
                        x -> x.setAdd(t, false, key));
                refused(REFUSED, "setAdd down of " + key, Sentences::rich,
                        x -> x.setAdd(t, true, key));
                refused(REFUSED, "setAdd to an empty TABLE", Pairpictures::new,
                        x -> x.setAdd(t, true, key));
            }
        }
    }

    private static void pictures() {
        about("promise 29, another VALUE should be written to a PICTURE");
        for (int slot : new int[] {0, 1, 3, 7}) {
            for (int value : new int[] {NONE, 0, 10, 50, 99}) {
                refused(REFUSED, "writeTo " + slot + " of " + value, Sentences::rich,
                        x -> x.writeTo(slot, value));
            }
        }
        refused(REFUSED, "writeTo, though the pair went", () -> {
            Pairpictures x = rich();
            x.empty(0);
            return x;
        }, x -> x.writeTo(3, 1));
    }

    private static void walks() {
        for (int table = 0; table <= 2; table++) {
            int t = table;
            about("promise 40, \"!\" (REFUSED) if it is LOST");
            refused("!", "next", () -> lost(t), x -> x.next(t));
            about("promise 41, REFUSED if it is LOST");
            refused(REFUSED, "dropLast", () -> lost(t), x -> x.dropLast(t));
            about("promise 41, REFUSED if it told none since it was begun");
            refused(REFUSED, "dropLast, none told", () -> {
                Pairpictures x = filled(t);
                x.walk(t, true);
                return x;
            }, x -> x.dropLast(t));
            refused(REFUSED, "dropLast, none told, of an empty TABLE", () -> {
                Pairpictures x = new Pairpictures();
                x.walk(t, true);
                x.next(t);
                return x;
            }, x -> x.dropLast(t));
            refused(REFUSED, "dropLast, none told since it was begun anew", () -> {
                Pairpictures x = filled(t);
                x.walk(t, true);
                x.next(t);
                x.walk(t, true);
                return x;
            }, x -> x.dropLast(t));
            about("promise 41, REFUSED if it told none since this was done last");
            refused(REFUSED, "dropLast again", () -> {
                Pairpictures x = filled(t);
                x.walk(t, false);
                x.next(t);
                x.dropLast(t);
                return x;
            }, x -> x.dropLast(t));
            refused(REFUSED, "dropLast again at its end", () -> {
                Pairpictures x = new Pairpictures();
                x.put(t, 5, 5);
                x.walk(t, false);
                x.next(t);
                x.dropLast(t);
                x.next(t);
                return x;
            }, x -> x.dropLast(t));
        }
    }

    private static void otherEnds() {
        about("\"none\" is no REFUSED");
        for (int which = 2; which <= 5; which++) {
            int w = which;
            notRefused("none", "key " + w, Sentences::rich, x -> x.key(1, w, 0));
            notRefused("none", "setKey " + w, Sentences::rich, x -> x.setKey(1, true, w, 0));
        }
        notRefused("none", "BEFORE the FIRST", Sentences::rich, x -> x.key(0, 2, 1));
        notRefused("none", "AT OR BEFORE, ahead of the FIRST", Sentences::rich,
                x -> x.key(0, 3, 0));
        notRefused("none", "AT OR BEHIND, behind the LAST", Sentences::rich,
                x -> x.key(0, 4, 10));
        notRefused("none", "BEHIND the LAST", Sentences::rich, x -> x.key(0, 5, 9));
        notRefused("none", "next at its end", Sentences::rich, x -> x.next(1));
        notRefused("none", "setPoll of an empty TABLE", Sentences::rich,
                x -> x.setPoll(1, true, true));
        notRefused(false, "poll of an empty TABLE", Sentences::rich, x -> x.poll(1, true, 6));
        notRefused(false, "picture of FIRST of an empty TABLE", Sentences::rich,
                x -> x.picture(1, 0, 0, 6));
        notRefused(false, "picture of LAST of an empty TABLE", Sentences::rich,
                x -> x.picture(1, 1, 0, 6));
    }

    private static void otherRefusals() {
        about("what is not done for other reasons is no REFUSED");
        notRefused(50, "putNew, though there is a VALUE", Sentences::rich, x -> x.putNew(0, 5, 1));
        notRefused(-1, "replace without a pair", Sentences::rich, x -> x.replace(0, 4, 1));
        notRefused(false, "swap of another VALUE", Sentences::rich, x -> x.swap(0, 5, 51, 1));
        notRefused(-1, "drop without a pair", Sentences::rich, x -> x.drop(0, 4));
        notRefused(false, "dropPair of another VALUE", Sentences::rich, x -> x.dropPair(0, 5, 51));
        notRefused(false, "setDrop without a KEY", Sentences::rich, x -> x.setDrop(0, true, 4));
        notRefused(0, "empty of an empty TABLE", Sentences::rich, x -> x.empty(1));
        notRefused(-9, "valueOr of -9", Sentences::rich, x -> x.valueOr(0, 4, REFUSED));
        notRefused(true, "isSound, though a TABLE is empty and PICTURES are there",
                Sentences::rich, x -> x.isSound());
        notRefused(true, "digest, though a TABLE is empty", Sentences::rich,
                x -> x.digest() == x.digest());
    }

    private static void lostAtItsEnd() {
        about("promise 40, \"none\" at its end (also if it is LOST)");
        notRefused("none", "next", () -> {
            Pairpictures x = new Pairpictures();
            x.walk(2, true);
            x.put(2, 5, 5);
            return x;
        }, x -> x.next(2));
    }

    private static void howOften() {
        about("promise 42, how often REFUSED was told");
        Pairpictures x = new Pairpictures();
        int told = 0;
        due(told++, "at first", () -> x.house(2));
        x.key(0, 0, 0);
        due(told++, "by key of FIRST", () -> x.house(2));
        x.key(2, 1, 0);
        due(told++, "by key of LAST", () -> x.house(2));
        x.setKey(1, true, 0, 0);
        due(told++, "by setKey of FIRST", () -> x.house(2));
        x.setKey(1, false, 1, 0);
        due(told++, "by setKey of LAST", () -> x.house(2));
        x.setAdd(0, true, 0);
        due(told++, "by setAdd", () -> x.house(2));
        x.put(0, 1, 1);
        x.picture(0, 0, 0, 0);
        x.writeTo(0, 1);
        due(told++, "by writeTo", () -> x.house(2));
        x.walk(0, true);
        x.dropLast(0);
        due(told++, "by dropLast, none told", () -> x.house(2));
        x.put(0, 2, 2);
        x.next(0);
        due(told++, "by next, LOST", () -> x.house(2));
        x.next(0);
        due(told++, "by next again", () -> x.house(2));
        x.dropLast(0);
        due(told, "by dropLast, LOST", () -> x.house(2));
        x.empty(0);
        x.walk(0, true);
        x.picture(0, 0, 0, 0);
        int all = told;
        due(all, "as all went, it is kept", () -> x.house(2));
    }

    public static void main(String[] args) {
        ends();
        sets();
        pictures();
        walks();
        otherEnds();
        otherRefusals();
        lostAtItsEnd();
        howOften();
        end("boundaries of refusals");
    }
}

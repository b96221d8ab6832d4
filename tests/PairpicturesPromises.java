/** For each promise its ordinary inputs, the edges that the document names, and wrong inputs. */
public final class PairpicturesPromises extends Sentences {
    private static void newObject() {
        Pairpictures x = new Pairpictures();
        for (int t = 0; t <= 2; t++) {
            int table = t;
            due("{}", "text", () -> x.text(table));
            due(0, "size", () -> x.size(table));
            due(0, "hash", () -> x.hash(table));
            due("", "keys", () -> x.keys(table, false, false));
            due(BAD_STATE, "isMore", () -> x.isMore(table));
        }
        for (int s = 0; s <= 7; s++) {
            int slot = s;
            due(false, "isThere", () -> x.isThere(slot));
        }
        for (int w = 0; w <= 4; w++) {
            int what = w;
            due(0, "house", () -> x.house(what));
        }
    }

    private static void put() {
        Pairpictures x = new Pairpictures();
        due(-1, "put new", () -> x.put(0, 5, 0));
        due(0, "put again", () -> x.put(0, 5, 99));
        due(99, "put nothing", () -> x.put(0, 5, -1));
        due(-1, "put over nothing", () -> x.put(0, 5, 7));
        due(-1, "put the least key", () -> x.put(0, MIN, 1));
        due(-1, "put the greatest key", () -> x.put(0, MAX, 2));
        due("{-2147483648=1, 5=7, 2147483647=2}", "text", () -> x.text(0));
        due("{}", "the other tables stay", () -> x.text(1));
        due(NO_PLACE, "table -1", () -> x.put(-1, 0, 0));
        due(NO_PLACE, "table 3", () -> x.put(3, 0, 0));
        due(NO_PLACE, "table first", () -> x.put(3, 0, 100));
        due(BAD, "value 100", () -> x.put(0, 5, 100));
        due(BAD, "value -2", () -> x.put(0, 6, -2));
        due("{-2147483648=1, 5=7, 2147483647=2}", "nothing changed", () -> x.text(0));
    }

    private static void putNew() {
        Pairpictures x = filled(0);
        due(-1, "new", () -> x.putNew(0, 4, 44));
        due(50, "there", () -> x.putNew(0, 5, 1));
        due(-1, "nothing gets a value", () -> x.putNew(0, 3, 33));
        due(-1, "new nothing", () -> x.putNew(0, 6, -1));
        due(-1, "nothing stays nothing", () -> x.putNew(0, 6, -1));
        due("{1=10, 3=33, 4=44, 5=50, 6=null, 9=7}", "text", () -> x.text(0));
        due(NO_PLACE, "table 3", () -> x.putNew(3, 5, 200));
        due(NO_PLACE, "table -1", () -> x.putNew(-1, 5, 1));
        due(BAD, "value 100 though there", () -> x.putNew(0, 5, 100));
        due(BAD, "value -2", () -> x.putNew(0, 77, -2));
        due(6, "size", () -> x.size(0));
    }

    private static void replace() {
        Pairpictures x = filled(2);
        due(50, "there", () -> x.replace(2, 5, 51));
        due(-1, "nothing", () -> x.replace(2, 3, 30));
        due(-1, "not there", () -> x.replace(2, 4, 40));
        due(10, "to nothing", () -> x.replace(2, 1, -1));
        due("{9=7, 5=51, 3=30, 1=null}", "text", () -> x.text(2));
        due(NO_PLACE, "table 3", () -> x.replace(3, 5, 100));
        due(BAD, "value 100 though not there", () -> x.replace(2, 4, 100));
        due(BAD, "value -2", () -> x.replace(2, 5, -2));
    }

    private static void swap() {
        Pairpictures x = filled(0);
        due(true, "that value", () -> x.swap(0, 5, 50, 51));
        due(false, "another value", () -> x.swap(0, 5, 50, 52));
        due(true, "nothing", () -> x.swap(0, 3, -1, 30));
        due(false, "not there, nothing", () -> x.swap(0, 4, -1, 40));
        due(true, "the same", () -> x.swap(0, 9, 7, 7));
        due(true, "to nothing", () -> x.swap(0, 1, 10, -1));
        due("{1=null, 3=30, 5=51, 9=7}", "text", () -> x.text(0));
        due(NO_PLACE, "table 3", () -> x.swap(3, 5, 100, 1));
        due(BAD, "old 100", () -> x.swap(0, 5, 100, 1));
        due(BAD, "old -2", () -> x.swap(0, 5, -2, 1));
        due(BAD, "value 100", () -> x.swap(0, 5, 51, 100));
        due(BAD, "value -2 though another value", () -> x.swap(0, 5, 1, -2));
        due("{1=null, 3=30, 5=51, 9=7}", "nothing changed", () -> x.text(0));
    }

    private static void drop() {
        Pairpictures x = filled(0);
        due(10, "the first", () -> x.drop(0, 1));
        due(-1, "nothing", () -> x.drop(0, 3));
        due(false, "nothing went", () -> x.has(0, 3));
        due(-1, "not there", () -> x.drop(0, 4));
        due(7, "the last", () -> x.drop(0, 9));
        due("{5=50}", "text", () -> x.text(0));
        due(50, "the only one", () -> x.drop(0, 5));
        due(-1, "of none", () -> x.drop(0, 5));
        due("{}", "text of none", () -> x.text(0));
        due(NO_PLACE, "table 3", () -> x.drop(3, 5));
        due(NO_PLACE, "table -1", () -> x.drop(-1, 5));
    }

    private static void dropPair() {
        Pairpictures x = filled(0);
        due(false, "another value", () -> x.dropPair(0, 5, 51));
        due(false, "nothing asked, a value there", () -> x.dropPair(0, 5, -1));
        due(true, "that value", () -> x.dropPair(0, 5, 50));
        due(true, "nothing", () -> x.dropPair(0, 3, -1));
        due(false, "not there, nothing", () -> x.dropPair(0, 4, -1));
        due("{1=10, 9=7}", "text", () -> x.text(0));
        due(NO_PLACE, "table 3", () -> x.dropPair(3, 1, 100));
        due(BAD, "value 100", () -> x.dropPair(0, 1, 100));
        due(BAD, "value -2", () -> x.dropPair(0, 4, -2));
    }

    private static void empty() {
        Pairpictures x = filled(1);
        x.put(0, 1, 1);
        due(4, "all", () -> x.empty(1));
        due(0, "of none", () -> x.empty(1));
        due("{}", "text", () -> x.text(1));
        due("{1=1}", "the other table stays", () -> x.text(0));
        x.put(1, 8, 8);
        due("{8=8}", "it can be filled again", () -> x.text(1));
        due(NO_PLACE, "table 3", () -> x.empty(3));
        due(NO_PLACE, "table -1", () -> x.empty(-1));
    }

    private static void addAll() {
        Pairpictures x = filled(0);
        x.put(2, 5, 1);
        x.put(2, 1, 1);
        x.put(2, 3, 1);
        x.put(2, 6, 60);
        due(5, "to the turned one", () -> x.addAll(2, 0));
        due("{9=7, 6=60, 5=50, 3=null, 1=10}", "text", () -> x.text(2));
        due("{1=10, 3=null, 5=50, 9=7}", "the other one stays", () -> x.text(0));
        due(4, "the same", () -> x.addAll(0, 0));
        due(4, "of none", () -> x.addAll(0, 1));
        due(5, "to none", () -> x.addAll(1, 2));
        due("{1=10, 3=null, 5=50, 6=60, 9=7}", "text to none", () -> x.text(1));
        due(NO_PLACE, "table 3", () -> x.addAll(3, 0));
        due(NO_PLACE, "other 3", () -> x.addAll(0, 3));
        due(NO_PLACE, "other -1", () -> x.addAll(0, -1));
    }

    private static void rewrite() {
        Pairpictures x = filled(0);
        x.addAll(2, 0);
        due(10, "the first", () -> x.rewrite(0, 0, 11));
        due(-1, "nothing", () -> x.rewrite(0, 1, 31));
        due(7, "the last to nothing", () -> x.rewrite(0, 3, -1));
        due("{1=11, 3=31, 5=50, 9=null}", "text", () -> x.text(0));
        due(7, "the first of the turned one", () -> x.rewrite(2, 0, 8));
        due("{9=8, 5=50, 3=null, 1=10}", "text of the turned one", () -> x.text(2));
        due(NO_PLACE, "place 4", () -> x.rewrite(0, 4, 1));
        due(NO_PLACE, "place -1", () -> x.rewrite(0, -1, 1));
        due(NO_PLACE, "place of none", () -> x.rewrite(1, 0, 1));
        due(NO_PLACE, "place ahead of value", () -> x.rewrite(0, 4, 100));
        due(NO_PLACE, "table 3", () -> x.rewrite(3, 0, 1));
        due(BAD, "value 100", () -> x.rewrite(0, 0, 100));
        due(BAD, "value -2", () -> x.rewrite(0, 0, -2));
        due(11, "nothing changed", () -> x.value(0, 1));
    }

    private static void valueAndValueOr() {
        Pairpictures x = filled(0);
        about("promise 11");
        due(50, "there", () -> x.value(0, 5));
        due(-1, "nothing", () -> x.value(0, 3));
        due(-1, "not there", () -> x.value(0, 4));
        due(-1, "another table", () -> x.value(1, 5));
        due(NO_PLACE, "table 3", () -> x.value(3, 5));
        due(NO_PLACE, "table -1", () -> x.value(-1, 5));
        about("promise 12");
        due(50, "there", () -> x.valueOr(0, 5, 1000));
        due(-1, "nothing", () -> x.valueOr(0, 3, 1000));
        due(1000, "not there", () -> x.valueOr(0, 4, 1000));
        due(MIN, "any number", () -> x.valueOr(2, 5, MIN));
        due(NO_PLACE, "table 3", () -> x.valueOr(3, 5, 0));
    }

    private static void hasAndHasValue() {
        Pairpictures x = filled(2);
        about("promise 13");
        due(true, "there", () -> x.has(2, 9));
        due(true, "nothing", () -> x.has(2, 3));
        due(false, "not there", () -> x.has(2, 4));
        due(false, "another table", () -> x.has(0, 9));
        due(NO_PLACE, "table 3", () -> x.has(3, 9));
        about("promise 14");
        due(true, "there", () -> x.hasValue(2, 7));
        due(true, "nothing", () -> x.hasValue(2, -1));
        due(false, "not there", () -> x.hasValue(2, 9));
        due(false, "nothing of none", () -> x.hasValue(0, -1));
        x.drop(2, 3);
        due(false, "nothing no more", () -> x.hasValue(2, -1));
        due(NO_PLACE, "table 3", () -> x.hasValue(3, 100));
        due(BAD, "value 100", () -> x.hasValue(2, 100));
        due(BAD, "value -2", () -> x.hasValue(2, -2));
    }

    private static void sizeAndIsEmpty() {
        Pairpictures x = filled(1);
        about("promise 15");
        due(4, "some", () -> x.size(1));
        due(0, "none", () -> x.size(2));
        due(NO_PLACE, "table 3", () -> x.size(3));
        due(NO_PLACE, "table -1", () -> x.size(-1));
        about("promise 16");
        due(false, "some", () -> x.isEmpty(1));
        due(true, "none", () -> x.isEmpty(2));
        due(NO_PLACE, "table 3", () -> x.isEmpty(3));
    }

    private static void text() {
        Pairpictures x = filled(0);
        due("{1=10, 3=null, 5=50, 9=7}", "some", () -> x.text(0));
        due("{}", "none", () -> x.text(2));
        x.addAll(2, 0);
        x.put(2, MIN, 0);
        due("{9=7, 5=50, 3=null, 1=10, -2147483648=0}", "turned", () -> x.text(2));
        due(NO_PLACE, "table 3", () -> x.text(3));
        due(NO_PLACE, "table -1", () -> x.text(-1));
    }

    private static void hash() {
        Pairpictures x = filled(0);
        due((1 ^ 10) + 3 + (5 ^ 50) + (9 ^ 7), "some", () -> x.hash(0));
        due(0, "none", () -> x.hash(2));
        x.put(1, MAX, -1);
        x.put(1, MAX - 1, 1);
        due(-2, "wraps around", () -> x.hash(1));
        x.put(2, -5, 2);
        due(-5 ^ 2, "a key below 0", () -> x.hash(2));
        due(NO_PLACE, "table 3", () -> x.hash(3));
    }

    private static void isSame() {
        Pairpictures x = filled(0);
        due(false, "some and none", () -> x.isSame(0, 2));
        due(true, "none and none", () -> x.isSame(1, 2));
        due(true, "itself", () -> x.isSame(0, 0));
        x.addAll(2, 0);
        due(true, "the other way round", () -> x.isSame(0, 2));
        x.put(2, 1, 11);
        due(false, "another value", () -> x.isSame(0, 2));
        x.put(2, 1, 10);
        x.drop(2, 3);
        x.put(2, 4, -1);
        due(false, "another key of nothing", () -> x.isSame(0, 2));
        due(false, "another key of nothing, back", () -> x.isSame(2, 0));
        due(NO_PLACE, "table 3", () -> x.isSame(3, 0));
        due(NO_PLACE, "other 3", () -> x.isSame(0, 3));
        due(NO_PLACE, "other -1", () -> x.isSame(0, -1));
    }

    private static void isTurned() {
        Pairpictures x = new Pairpictures();
        due(false, "table 0", () -> x.isTurned(0));
        due(false, "table 1", () -> x.isTurned(1));
        due(true, "table 2", () -> x.isTurned(2));
        due(NO_PLACE, "table 3", () -> x.isTurned(3));
        due(NO_PLACE, "table -1", () -> x.isTurned(-1));
    }

    private static void key() {
        Pairpictures x = filled(0);
        String[] atFive = {"1", "9", "3", "5", "5", "9"};
        String[] atFour = {"1", "9", "3", "3", "5", "5"};
        String[] atLeast = {"1", "9", "none", "none", "1", "1"};
        String[] atMost = {"1", "9", "9", "9", "none", "none"};
        String[] ofNone = {"!", "!", "none", "none", "none", "none"};
        for (int w = 0; w <= 5; w++) {
            int which = w;
            due(atFive[w], "which " + w + " of 5", () -> x.key(0, which, 5));
            due(atFour[w], "which " + w + " of 4", () -> x.key(0, which, 4));
            due(atLeast[w], "which " + w + " of the least", () -> x.key(0, which, MIN));
            due(atMost[w], "which " + w + " of the greatest", () -> x.key(0, which, MAX));
            due(ofNone[w], "which " + w + " of none", () -> x.key(1, which, 5));
        }
        due(2, "refused twice", () -> x.house(2));
        x.addAll(2, 0);
        String[] turned = {"9", "1", "5", "5", "3", "3"};
        for (int w = 0; w <= 5; w++) {
            int which = w;
            due(turned[w], "turned, which " + w, () -> x.key(2, which, 4));
        }
        due(NO_PLACE, "table 3", () -> x.key(3, 6, 0));
        due(BAD, "which 6", () -> x.key(0, 6, 0));
        due(BAD, "which -1", () -> x.key(0, -1, 0));
        due(BAD, "which 6 of none", () -> x.key(1, 6, 0));
    }

    private static void picture() {
        Pairpictures x = filled(2);
        String[] atFive = {"9=7", "1=10", "9=7", "5=50", "5=50", "3=null"};
        for (int w = 0; w <= 5; w++) {
            int which = w;
            due(true, "which " + w, () -> x.picture(2, which, 5, which));
            due(atFive[w], "text of which " + w, () -> x.textOf(which));
        }
        x.put(2, 5, 51);
        x.drop(2, 9);
        x.empty(2);
        due("5=50", "it stays as another value is put", () -> x.textOf(3));
        due("9=7", "it stays as the pair goes", () -> x.textOf(2));
        due(false, "first of none", () -> x.picture(2, 0, 0, 3));
        due(false, "it is none then", () -> x.isThere(3));
        due(0, "that is not refused", () -> x.house(2));
        due(NO_PLACE, "table 3", () -> x.picture(3, 6, 0, 0));
        due(NO_PLACE, "slot 8", () -> x.picture(2, 6, 0, 8));
        due(NO_PLACE, "slot -1", () -> x.picture(2, 0, 0, -1));
        due(BAD, "which 6", () -> x.picture(2, 6, 0, 0));
        due(BAD, "which -1", () -> x.picture(2, -1, 0, 0));
        due("9=7", "nothing changed", () -> x.textOf(0));
    }

    private static void poll() {
        Pairpictures x = filled(0);
        x.addAll(2, 0);
        due(true, "first", () -> x.poll(0, false, 0));
        due("1=10", "text of first", () -> x.textOf(0));
        due(true, "last", () -> x.poll(0, true, 7));
        due("9=7", "text of last", () -> x.textOf(7));
        due("{3=null, 5=50}", "they went", () -> x.text(0));
        due(true, "first, turned", () -> x.poll(2, false, 1));
        due("9=7", "text of first, turned", () -> x.textOf(1));
        due(false, "of none", () -> x.poll(1, false, 0));
        due(false, "it is none then", () -> x.isThere(0));
        due(0, "that is not refused", () -> x.house(2));
        due(NO_PLACE, "table 3", () -> x.poll(3, false, 0));
        due(NO_PLACE, "slot 8", () -> x.poll(0, false, 8));
        due(NO_PLACE, "slot -1", () -> x.poll(0, false, -1));
        due("{3=null, 5=50}", "nothing changed", () -> x.text(0));
    }

    private static void pictureAnswers() {
        Pairpictures x = filled(0);
        x.put(0, MIN, 2);
        x.picture(0, 3, 5, 0);
        x.picture(0, 3, 3, 1);
        x.picture(0, 0, 0, 7);
        about("promise 24");
        due(true, "taken", () -> x.isThere(7));
        due(false, "not taken", () -> x.isThere(2));
        about("promise 25");
        due(5, "key", () -> x.keyOf(0));
        due(MIN, "the least", () -> x.keyOf(7));
        about("promise 26");
        due(50, "value", () -> x.valueOf(0));
        due(-1, "nothing", () -> x.valueOf(1));
        about("promise 27");
        due("5=50", "text", () -> x.textOf(0));
        due("3=null", "nothing", () -> x.textOf(1));
        due("-2147483648=2", "the least", () -> x.textOf(7));
        about("promise 28");
        due(5 ^ 50, "hash", () -> x.hashOf(0));
        due(3, "nothing", () -> x.hashOf(1));
        due(MIN + 2, "the least", () -> x.hashOf(7));
        for (int slot : new int[] {-1, 8}) {
            about("promise 24");
            due(NO_PLACE, "slot " + slot, () -> x.isThere(slot));
            about("promise 25");
            due(NO_PLACE, "slot " + slot, () -> x.keyOf(slot));
            about("promise 26");
            due(NO_PLACE, "slot " + slot, () -> x.valueOf(slot));
            about("promise 27");
            due(NO_PLACE, "slot " + slot, () -> x.textOf(slot));
            about("promise 28");
            due(NO_PLACE, "slot " + slot, () -> x.hashOf(slot));
        }
        about("promise 25");
        due(BAD_STATE, "none", () -> x.keyOf(2));
        about("promise 26");
        due(BAD_STATE, "none", () -> x.valueOf(2));
        about("promise 27");
        due(BAD_STATE, "none", () -> x.textOf(2));
        about("promise 28");
        due(BAD_STATE, "none", () -> x.hashOf(2));
    }

    private static void writeTo() {
        Pairpictures x = filled(0);
        x.picture(0, 0, 0, 0);
        due(-9, "refused", () -> x.writeTo(0, 3));
        due(-9, "refused with nothing", () -> x.writeTo(0, -1));
        due(2, "counted", () -> x.house(2));
        due("1=10", "nothing changed", () -> x.textOf(0));
        due("{1=10, 3=null, 5=50, 9=7}", "nor in the table", () -> x.text(0));
        due(NO_PLACE, "slot 8", () -> x.writeTo(8, 100));
        due(NO_PLACE, "slot -1", () -> x.writeTo(-1, 1));
        due(BAD, "value 100 ahead of none", () -> x.writeTo(1, 100));
        due(BAD, "value -2", () -> x.writeTo(0, -2));
        due(BAD_STATE, "none", () -> x.writeTo(1, 1));
        due(2, "exceptions are not counted", () -> x.house(2));
    }

    private static void areAlike() {
        Pairpictures x = filled(0);
        x.addAll(2, 0);
        x.picture(0, 3, 3, 0);
        x.picture(2, 3, 3, 1);
        x.put(2, 3, 0);
        x.picture(2, 3, 3, 2);
        x.put(2, 4, -1);
        x.picture(2, 3, 4, 3);
        due(true, "of two tables", () -> x.areAlike(0, 1));
        due(true, "itself", () -> x.areAlike(2, 2));
        due(false, "another value", () -> x.areAlike(0, 2));
        due(false, "another key", () -> x.areAlike(0, 3));
        due(NO_PLACE, "slot 8", () -> x.areAlike(8, 7));
        due(NO_PLACE, "other 8 ahead of none", () -> x.areAlike(7, 8));
        due(NO_PLACE, "other -1", () -> x.areAlike(0, -1));
        due(BAD_STATE, "none", () -> x.areAlike(7, 0));
        due(BAD_STATE, "other none", () -> x.areAlike(0, 7));
        due(BAD_STATE, "both none", () -> x.areAlike(6, 6));
    }

    private static void setKey() {
        Pairpictures x = filled(0);
        x.addAll(2, 0);
        String[] up = {"1", "9", "3", "5", "5", "9"};
        String[] down = {"9", "1", "9", "5", "5", "3"};
        String[] upBetween = {"1", "9", "3", "3", "5", "5"};
        String[] downBetween = {"9", "1", "5", "5", "3", "3"};
        String[] ofNone = {"!", "!", "none", "none", "none", "none"};
        for (int w = 0; w <= 5; w++) {
            int which = w;
            due(up[w], "up " + w, () -> x.setKey(0, false, which, 5));
            due(down[w], "down " + w, () -> x.setKey(0, true, which, 5));
            due(down[w], "turned up " + w, () -> x.setKey(2, false, which, 5));
            due(up[w], "turned down " + w, () -> x.setKey(2, true, which, 5));
            due(upBetween[w], "up between " + w, () -> x.setKey(0, false, which, 4));
            due(downBetween[w], "down between " + w, () -> x.setKey(0, true, which, 4));
            due(ofNone[w], "none up " + w, () -> x.setKey(1, false, which, 5));
            due(ofNone[w], "none down " + w, () -> x.setKey(1, true, which, 5));
        }
        due("none", "ahead of the first", () -> x.setKey(0, true, 2, 9));
        due("none", "behind the last", () -> x.setKey(0, true, 5, 1));
        due("none", "at or behind, behind the last", () -> x.setKey(0, true, 4, MIN));
        due("none", "at or ahead, ahead of the first", () -> x.setKey(0, true, 3, MAX));
        due(4, "refused", () -> x.house(2));
        due(NO_PLACE, "table 3", () -> x.setKey(3, true, 6, 0));
        due(BAD, "which 6", () -> x.setKey(0, true, 6, 0));
        due(BAD, "which -1", () -> x.setKey(0, false, -1, 0));
    }

    private static void setPoll() {
        Pairpictures x = filled(0);
        due("9", "first down", () -> x.setPoll(0, true, false));
        due("1", "last down", () -> x.setPoll(0, true, true));
        due("{3=null, 5=50}", "the pairs went", () -> x.text(0));
        due("3", "first up", () -> x.setPoll(0, false, false));
        due("5", "last up", () -> x.setPoll(0, false, true));
        due("none", "of none", () -> x.setPoll(0, false, true));
        due("none", "of none, down", () -> x.setPoll(2, true, false));
        due(0, "that is not refused", () -> x.house(2));
        x.put(2, 1, 1);
        x.put(2, 2, 2);
        due("2", "first up, turned", () -> x.setPoll(2, false, false));
        due(NO_PLACE, "table 3", () -> x.setPoll(3, false, true));
        due(NO_PLACE, "table -1", () -> x.setPoll(-1, false, true));
    }

    private static void setDrop() {
        Pairpictures x = filled(0);
        due(true, "there", () -> x.setDrop(0, false, 5));
        due(true, "nothing", () -> x.setDrop(0, true, 3));
        due(false, "not there", () -> x.setDrop(0, true, 5));
        due("{1=10, 9=7}", "the pairs went", () -> x.text(0));
        due(NO_PLACE, "table 3", () -> x.setDrop(3, false, 1));
        due(NO_PLACE, "table -1", () -> x.setDrop(-1, false, 1));
    }

    private static void setAdd() {
        Pairpictures x = filled(0);
        due(-9, "a new one", () -> x.setAdd(0, false, 4));
        due(-9, "one that is there", () -> x.setAdd(0, true, 5));
        due("{1=10, 3=null, 5=50, 9=7}", "nothing changed", () -> x.text(0));
        due(2, "counted", () -> x.house(2));
        due(NO_PLACE, "table 3", () -> x.setAdd(3, false, 4));
        due(NO_PLACE, "table -1", () -> x.setAdd(-1, false, 4));
        due(2, "exceptions are not counted", () -> x.house(2));
    }

    private static void setHasAndSize() {
        Pairpictures x = filled(2);
        about("promise 35");
        due(true, "there", () -> x.setHas(2, true, 5));
        due(true, "nothing", () -> x.setHas(2, false, 3));
        due(false, "not there", () -> x.setHas(2, false, 4));
        due(NO_PLACE, "table 3", () -> x.setHas(3, true, 5));
        about("promise 36");
        due(4, "down", () -> x.setSize(2, true));
        due(4, "up", () -> x.setSize(2, false));
        due(0, "none", () -> x.setSize(0, false));
        due(NO_PLACE, "table 3", () -> x.setSize(3, true));
        x.put(2, 4, 4);
        due(5, "not kept apart", () -> x.setSize(2, true));
        about("promise 35");
        due(true, "not kept apart", () -> x.setHas(2, false, 4));
    }

    private static void keys() {
        Pairpictures x = filled(0);
        x.addAll(2, 0);
        due("1 3 5 9", "up", () -> x.keys(0, false, false));
        due("9 5 3 1", "up, back", () -> x.keys(0, false, true));
        due("9 5 3 1", "down", () -> x.keys(0, true, false));
        due("1 3 5 9", "down, back", () -> x.keys(0, true, true));
        due("9 5 3 1", "turned up", () -> x.keys(2, false, false));
        due("1 3 5 9", "turned down", () -> x.keys(2, true, false));
        due("", "none", () -> x.keys(1, true, false));
        x.put(1, MIN, 0);
        due("-2147483648", "one", () -> x.keys(1, true, true));
        due(NO_PLACE, "table 3", () -> x.keys(3, true, true));
        due(NO_PLACE, "table -1", () -> x.keys(-1, true, true));
    }

    private static void walkAndIsMore() {
        Pairpictures x = filled(0);
        about("promise 38");
        due(false, "through none", () -> x.walk(1, false));
        due(true, "up", () -> x.walk(0, false));
        due("1", "up from the first", () -> x.next(0));
        due(true, "down takes its place", () -> x.walk(0, true));
        due(-9, "and has told none", () -> x.dropLast(0));
        due("9", "down from the first", () -> x.next(0));
        x.put(0, 2, 2);
        due("!", "lost", () -> x.next(0));
        due(true, "begun anew", () -> x.walk(0, false));
        due("1", "not lost", () -> x.next(0));
        due(NO_PLACE, "table 3", () -> x.walk(3, true));
        due(NO_PLACE, "table -1", () -> x.walk(-1, true));
        about("promise 39");
        due(true, "more", () -> x.isMore(0));
        due(false, "none", () -> x.isMore(1));
        x.put(1, 1, 1);
        due(false, "its end stays its end", () -> x.isMore(1));
        x.empty(0);
        due(true, "what is next stays as it is lost", () -> x.isMore(0));
        due(BAD_STATE, "no walk", () -> x.isMore(2));
        due(NO_PLACE, "table 3", () -> x.isMore(3));
        due(NO_PLACE, "table -1", () -> x.isMore(-1));
    }

    private static void next() {
        Pairpictures x = filled(2);
        x.walk(2, false);
        for (String key : new String[] {"9", "5", "3", "1", "none", "none"}) {
            due(key, "turned up " + key, () -> x.next(2));
        }
        x.put(2, 0, 0);
        due("none", "its end, lost", () -> x.next(2));
        x.walk(2, true);
        for (String key : new String[] {"0", "1", "3"}) {
            due(key, "turned down " + key, () -> x.next(2));
        }
        x.put(2, 5, 51);
        x.replace(2, 9, -1);
        x.rewrite(2, 0, 6);
        x.swap(2, 3, -1, 31);
        x.putNew(2, 3, 1);
        x.drop(2, 77);
        x.addAll(2, 2);
        x.empty(1);
        x.setAdd(2, true, 7);
        x.setDrop(2, true, 7);
        due("5", "not lost by values", () -> x.next(2));
        int before = x.house(2);
        x.drop(2, 0);
        due("!", "lost as a pair went", () -> x.next(2));
        due("!", "still lost", () -> x.next(2));
        due(2, "both counted", () -> x.house(2) - before);
        due(BAD_STATE, "no walk", () -> x.next(0));
        due(NO_PLACE, "table 3", () -> x.next(3));
        due(NO_PLACE, "table -1", () -> x.next(-1));
    }

    private static void lostWalks() {
        lostBy("put", x -> x.put(0, 4, 4));
        lostBy("putNew", x -> x.putNew(0, 4, 4));
        lostBy("drop", x -> x.drop(0, 1));
        lostBy("dropPair", x -> x.dropPair(0, 9, 7));
        lostBy("empty", x -> x.empty(0));
        lostBy("addAll", x -> {
            x.put(1, 4, 4);
            x.addAll(0, 1);
        });
        lostBy("poll", x -> x.poll(0, true, 0));
        lostBy("setPoll", x -> x.setPoll(0, true, false));
        lostBy("setDrop", x -> x.setDrop(0, true, 9));
        lostBy("a pair that comes and goes", x -> {
            x.put(0, 4, 4);
            x.drop(0, 4);
        });
    }

    private interface Change {
        void on(Pairpictures x);
    }

    private static void lostBy(String name, Change change) {
        Pairpictures x = filled(0);
        x.addAll(2, 0);
        x.walk(0, false);
        x.walk(2, false);
        x.next(0);
        x.next(2);
        change.on(x);
        due("!", "lost by " + name, () -> x.next(0));
        due(-9, "dropLast lost by " + name, () -> x.dropLast(0));
        due(true, "isMore lost by " + name, () -> x.isMore(0));
        due("5", "the walk of another table by " + name, () -> x.next(2));
    }

    private static void dropLast() {
        Pairpictures x = filled(0);
        x.walk(0, false);
        due(-9, "none told", () -> x.dropLast(0));
        x.next(0);
        x.next(0);
        due(3, "the second", () -> x.dropLast(0));
        due("{1=10, 5=50, 9=7}", "it went", () -> x.text(0));
        due(-9, "none told since", () -> x.dropLast(0));
        due("5", "the walk goes on", () -> x.next(0));
        due(2, "the third", () -> x.dropLast(0));
        due("9", "the walk goes on", () -> x.next(0));
        due("none", "its end", () -> x.next(0));
        x.put(0, 9, 70);
        due(1, "the last, at its end", () -> x.dropLast(0));
        due("none", "its end", () -> x.next(0));
        due("{1=10}", "the first stays", () -> x.text(0));
        due(2, "refused twice", () -> x.house(2));
        x.walk(0, true);
        x.next(0);
        x.drop(0, 1);
        due(-9, "lost", () -> x.dropLast(0));
        due(-9, "lost, begun anew and none told", () -> x.walk(0, true) ? 0 : x.dropLast(0));
        due(BAD_STATE, "no walk", () -> x.dropLast(1));
        due(NO_PLACE, "table 3", () -> x.dropLast(3));
        due(NO_PLACE, "table -1", () -> x.dropLast(-1));
        due(4, "exceptions are not counted", () -> x.house(2));
        Pairpictures y = filled(2);
        y.walk(2, true);
        for (int left = 3; left >= 0; left--) {
            int due = left;
            y.next(2);
            due(due, "all of them", () -> y.dropLast(2));
        }
        due("none", "all of them went", () -> y.next(2));
    }

    private static void houseAndKnock() {
        Pairpictures x = filled(0);
        x.put(1, 1, 1);
        x.put(1, 2, 2);
        x.put(2, 1, 1);
        x.picture(0, 0, 0, 3);
        x.picture(0, 0, 0, 4);
        x.empty(0);
        x.picture(0, 0, 0, 4);
        x.key(0, 0, 0);
        x.key(0, 2, 0);
        x.setKey(0, true, 1, 0);
        x.setAdd(0, true, 0);
        x.walk(0, false);
        x.walk(0, true);
        x.walk(2, true);
        about("promise 43");
        due(1, "first", () -> x.knock());
        due(2, "second", () -> x.knock());
        about("promise 42");
        due(3, "pairs", () -> x.house(0));
        due(1, "pictures", () -> x.house(1));
        due(3, "refused", () -> x.house(2));
        due(2, "knocks", () -> x.house(3));
        due(2, "walks", () -> x.house(4));
        x.walk(1, true);
        due(3, "walks of all", () -> x.house(4));
        due(BAD, "what 5", () -> x.house(5));
        due(BAD, "what -1", () -> x.house(-1));
    }

    private static void isSound() {
        Pairpictures x = filled(0);
        due(true, "none in two tables", () -> x.isSound());
        x.addAll(2, 0);
        x.put(0, MIN, 1);
        x.put(0, MAX, -1);
        x.put(2, MIN + 1, 1);
        x.put(2, MAX - 1, 1);
        x.picture(2, 0, 0, 0);
        x.picture(0, 0, 0, 7);
        x.walk(0, false);
        String before = x.text(0) + x.text(1) + x.text(2);
        due(true, "some", () -> x.isSound());
        due(before, "nothing changed", () -> x.text(0) + x.text(1) + x.text(2));
        due("-2147483648", "the walk goes on", () -> x.next(0));
        due(0, "nothing refused", () -> x.house(2));
    }

    private static long folded(long start, Object... parts) {
        long d = start;
        for (Object part : parts) {
            if (part instanceof String) {
                for (char sign : ((String) part).toCharArray()) {
                    d = d * 31 + sign;
                }
            } else {
                d = d * 31 + (Integer) part;
            }
        }
        return d;
    }

    private static void digest() {
        Pairpictures none = new Pairpictures();
        Object[] noTable = {0, 0, "{}", "none", "none", "none", "none"};
        long d = folded(7782, 0, 0, 0, 0, 0);
        d = folded(folded(folded(d, noTable), noTable), noTable);
        d = folded(d, 0, 0, 0, 0, 0, 0, 0, 0, 1, 1, 1, 1);
        due(d, "of a new one", () -> none.digest());

        Pairpictures x = new Pairpictures();
        x.put(0, -4, 7);
        x.put(0, 0, -1);
        x.put(2, 3, 30);
        x.put(2, -3, 5);
        x.picture(0, 4, 0, 1);
        x.picture(2, 1, 0, 6);
        x.setAdd(0, true, 0);
        x.knock();
        x.knock();
        x.walk(1, true);
        long e = folded(7782, 4, 2, 1, 2, 1);
        e = folded(e, 2, -4 ^ 7, "{-4=7, 0=null}", "-4", "0", "0", "none");
        e = folded(e, noTable);
        e = folded(e, 2, (3 ^ 30) + (-3 ^ 5), "{3=30, -3=5}", "3", "3", "-3", "-3");
        e = folded(e, 0, 1, 0, -1, 0, 0, 0, 0, 0, 1, -3, 5, -3 ^ 5, 0, 0, 0, 0, 1);
        long due = e;
        due(due, "of some", () -> x.digest());
        due(due, "again", () -> x.digest());
    }

    private static void check(int number, Runnable part) {
        about("promise " + number, part);
    }

    public static void main(String[] args) {
        check(1, PairpicturesPromises::newObject);
        check(2, PairpicturesPromises::put);
        check(3, PairpicturesPromises::putNew);
        check(4, PairpicturesPromises::replace);
        check(5, PairpicturesPromises::swap);
        check(6, PairpicturesPromises::drop);
        check(7, PairpicturesPromises::dropPair);
        check(8, PairpicturesPromises::empty);
        check(9, PairpicturesPromises::addAll);
        check(10, PairpicturesPromises::rewrite);
        check(11, PairpicturesPromises::valueAndValueOr);
        check(13, PairpicturesPromises::hasAndHasValue);
        check(15, PairpicturesPromises::sizeAndIsEmpty);
        check(17, PairpicturesPromises::text);
        check(18, PairpicturesPromises::hash);
        check(19, PairpicturesPromises::isSame);
        check(20, PairpicturesPromises::isTurned);
        check(21, PairpicturesPromises::key);
        check(22, PairpicturesPromises::picture);
        check(23, PairpicturesPromises::poll);
        check(24, PairpicturesPromises::pictureAnswers);
        check(29, PairpicturesPromises::writeTo);
        check(30, PairpicturesPromises::areAlike);
        check(31, PairpicturesPromises::setKey);
        check(32, PairpicturesPromises::setPoll);
        check(33, PairpicturesPromises::setDrop);
        check(34, PairpicturesPromises::setAdd);
        check(35, PairpicturesPromises::setHasAndSize);
        check(37, PairpicturesPromises::keys);
        check(38, PairpicturesPromises::walkAndIsMore);
        check(40, PairpicturesPromises::next);
        check(40, PairpicturesPromises::lostWalks);
        check(41, PairpicturesPromises::dropLast);
        check(42, PairpicturesPromises::houseAndKnock);
        check(44, PairpicturesPromises::isSound);
        check(45, PairpicturesPromises::digest);
        end("promises 1 to 45");
    }
}

/** A WALK that is LOST, at its end, both, or told nothing yet; and calls by which no pair came or went. */
public final class BoundaryWalks extends Sentences {
    private interface Change {
        void on(Pairpictures x, int table);
    }

    private interface Check {
        void with(int table, boolean isDown);
    }

    private static final int[] UP = {1, 3, 5, 9};
    private static final int[] DOWN = {9, 5, 3, 1};

    /** The KEYS of a filled TABLE as a WALK tells them. */
    private static int[] way(int table, boolean isDown) {
        return isDown == (table == 2) ? UP : DOWN;
    }

    private static void eachWalk(String sentence, Check check) {
        for (int table = 0; table <= 2; table++) {
            about(sentence + " (TABLE " + table + ", up)");
            check.with(table, false);
            about(sentence + " (TABLE " + table + ", down)");
            check.with(table, true);
        }
    }

    private static Pairpictures walked(int table, boolean isDown, int steps) {
        Pairpictures x = filled(table);
        x.walk(table, isDown);
        for (int step = 0; step < steps; step++) {
            x.next(table);
        }
        return x;
    }

    // ---- LOST, and not LOST

    /** After 0 to 3 steps a KEY comes next; it is LOST all the same, and tells so each time. */
    private static void loses(String name, Change change) {
        eachWalk("'What it is' 3, LOST if a pair came or went: " + name, (t, isDown) -> {
            for (int steps = 0; steps <= 3; steps++) {
                Pairpictures x = walked(t, isDown, steps);
                change.on(x, t);
                String after = ", " + steps + " steps";
                int told = x.house(2);
                due(REFUSED, "dropLast" + after, () -> x.dropLast(t));
                due("!", "next" + after, () -> x.next(t));
                due("!", "next again" + after, () -> x.next(t));
                due(REFUSED, "dropLast again" + after, () -> x.dropLast(t));
                due(true, "isMore" + after, () -> x.isMore(t));
                due(told + 4, "how often REFUSED was told" + after, () -> x.house(2));
                due(1, "it has a WALK" + after, () -> x.house(4));
            }
            atItsEndAndLost(t, isDown, change);
        });
    }

    private static void atItsEndAndLost(int t, boolean isDown, Change change) {
        Pairpictures x = walked(t, isDown, 4);
        change.on(x, t);
        int told = x.house(2);
        due("none", "next, at its end", () -> x.next(t));
        due(false, "isMore, at its end", () -> x.isMore(t));
        due(told, "no REFUSED by that", () -> x.house(2));
        due(REFUSED, "dropLast, at its end", () -> x.dropLast(t));
        due("none", "next again, at its end", () -> x.next(t));
        due(told + 1, "one REFUSED by that", () -> x.house(2));
    }

    private static void keeps(String name, Change change) {
        eachWalk("'What it is' 3, no pair came or went: " + name, (t, isDown) -> {
            int[] way = way(t, isDown);
            for (int steps = 0; steps <= 4; steps++) {
                Pairpictures x = walked(t, isDown, steps);
                change.on(x, t);
                String after = ", " + steps + " steps";
                due(steps < 4, "isMore" + after, () -> x.isMore(t));
                due(steps < 4 ? way[steps] : "none", "next" + after, () -> x.next(t));
            }
            for (int steps = 1; steps <= 4; steps++) {
                Pairpictures x = walked(t, isDown, steps);
                change.on(x, t);
                int dropped = way[steps - 1];
                String after = ", " + steps + " steps";
                due(3, "dropLast" + after, () -> x.dropLast(t));
                due(false, "the KEY told last is there" + after, () -> x.has(t, dropped));
            }
        });
    }

    private static void losses() {
        loses("put of a new KEY in the middle", (x, t) -> x.put(t, 4, 4));
        loses("put of a new KEY at one end", (x, t) -> x.put(t, MIN, NONE));
        loses("put of a new KEY at the other end", (x, t) -> x.put(t, MAX, 0));
        loses("putNew of a new KEY", (x, t) -> x.putNew(t, 4, NONE));
        loses("drop", (x, t) -> x.drop(t, 5));
        loses("drop of the smallest", (x, t) -> x.drop(t, 1));
        loses("drop of the greatest", (x, t) -> x.drop(t, 9));
        loses("drop of NOTHING", (x, t) -> x.drop(t, 3));
        loses("dropPair", (x, t) -> x.dropPair(t, 9, 7));
        loses("dropPair of NOTHING", (x, t) -> x.dropPair(t, 3, NONE));
        loses("empty", (x, t) -> x.empty(t));
        loses("addAll with one new KEY", (x, t) -> {
            x.put((t + 1) % 3, 5, 5);
            x.put((t + 1) % 3, 4, 4);
            x.addAll(t, (t + 1) % 3);
        });
        loses("poll of the FIRST", (x, t) -> x.poll(t, false, 0));
        loses("poll of the LAST", (x, t) -> x.poll(t, true, 7));
        loses("setPoll up of the FIRST", (x, t) -> x.setPoll(t, false, false));
        loses("setPoll up of the LAST", (x, t) -> x.setPoll(t, false, true));
        loses("setPoll down of the FIRST", (x, t) -> x.setPoll(t, true, false));
        loses("setPoll down of the LAST", (x, t) -> x.setPoll(t, true, true));
        loses("setDrop up", (x, t) -> x.setDrop(t, false, 5));
        loses("setDrop down", (x, t) -> x.setDrop(t, true, 3));
        loses("a pair came and went", (x, t) -> {
            x.put(t, 4, 4);
            x.drop(t, 4);
        });
        loses("a pair went and came again", (x, t) -> {
            x.drop(t, 5);
            x.put(t, 5, 50);
        });
        loses("all pairs went and came again", (x, t) -> {
            x.addAll((t + 1) % 3, t);
            x.empty(t);
            x.addAll(t, (t + 1) % 3);
        });
    }

    private static void valuesOnly() {
        keeps("put of another VALUE", (x, t) -> x.put(t, 5, 51));
        keeps("put of the same VALUE", (x, t) -> x.put(t, 5, 50));
        keeps("put of NOTHING", (x, t) -> x.put(t, 9, NONE));
        keeps("put over NOTHING", (x, t) -> x.put(t, 3, 33));
        keeps("putNew over a VALUE", (x, t) -> x.putNew(t, 5, 1));
        keeps("putNew over NOTHING", (x, t) -> x.putNew(t, 3, 33));
        keeps("replace", (x, t) -> x.replace(t, 1, NONE));
        keeps("swap", (x, t) -> x.swap(t, 3, NONE, 33));
        keeps("rewrite of all", (x, t) -> {
            for (int place = 0; place < 4; place++) {
                x.rewrite(t, place, 70 + place);
            }
        });
        keeps("addAll with other VALUES", (x, t) -> {
            x.put((t + 1) % 3, 5, NONE);
            x.put((t + 1) % 3, 1, 99);
            x.addAll(t, (t + 1) % 3);
        });
    }

    private static void nothingDone() {
        keeps("replace without a pair", (x, t) -> x.replace(t, 4, 1));
        keeps("swap without a pair", (x, t) -> x.swap(t, 4, NONE, 1));
        keeps("swap of another VALUE", (x, t) -> x.swap(t, 5, NONE, 1));
        keeps("drop without a pair", (x, t) -> x.drop(t, 4));
        keeps("dropPair without a pair", (x, t) -> x.dropPair(t, 4, NONE));
        keeps("dropPair of another VALUE", (x, t) -> x.dropPair(t, 5, NONE));
        keeps("setDrop without a KEY", (x, t) -> {
            x.setDrop(t, false, 4);
            x.setDrop(t, true, 4);
        });
        keeps("setAdd", (x, t) -> {
            x.setAdd(t, false, 4);
            x.setAdd(t, true, 5);
        });
        keeps("addAll of itself", (x, t) -> x.addAll(t, t));
        keeps("addAll of an empty TABLE", (x, t) -> x.addAll(t, (t + 1) % 3));
        keeps("writeTo", (x, t) -> {
            x.picture(t, 0, 0, 0);
            x.writeTo(0, 5);
        });
        keeps("calls that throw", (x, t) -> {
            told(() -> x.put(t, 4, 100));
            told(() -> x.put(3, 4, 1));
            told(() -> x.poll(t, true, 8));
            told(() -> x.rewrite(t, 4, 1));
            told(() -> x.key(t, 6, 0));
            told(() -> x.walk(3, true));
            told(() -> x.empty(-1));
        });
    }

    private static void lookedAt() {
        keeps("all that is asked", (x, t) -> {
            for (int which = 0; which <= 5; which++) {
                x.key(t, which, 5);
                x.setKey(t, true, which, 5);
                x.picture(t, which, 5, which);
            }
            x.text(t);
            x.hash(t);
            x.keys(t, true, true);
            x.isSame(t, t);
            x.hasValue(t, 7);
            x.setSize(t, true);
            x.isMore(t);
            x.knock();
            x.isSound();
            x.digest();
        });
        keeps("pairs of the other TABLES come and go", (x, t) -> {
            for (int other = 0; other <= 2; other++) {
                if (other != t) {
                    x.addAll(other, t);
                    x.drop(other, 5);
                    x.poll(other, true, 0);
                    x.setPoll(other, true, true);
                    x.empty(other);
                    x.put(other, 4, 4);
                }
            }
        });
        keeps("the WALKS of the other TABLES", (x, t) -> {
            for (int other = 0; other <= 2; other++) {
                if (other != t) {
                    x.put(other, 5, 5);
                    x.walk(other, true);
                    x.next(other);
                    x.dropLast(other);
                    x.put(other, 6, 6);
                    x.next(other);
                }
            }
        });
        keeps("dropLast that is refused in another TABLE", (x, t) -> {
            x.walk((t + 1) % 3, false);
            x.dropLast((t + 1) % 3);
        });
    }

    // ---- at its end

    private static void end() {
        eachWalk("promise 40, \"none\" at its end", (t, isDown) -> {
            Pairpictures x = filled(t);
            x.walk(t, isDown);
            for (int key : way(t, isDown)) {
                due(true, "isMore ahead of " + key, () -> x.isMore(t));
                due(key, "next", () -> x.next(t));
            }
            due(false, "isMore", () -> x.isMore(t));
            due("none", "next at its end", () -> x.next(t));
            due("none", "next again", () -> x.next(t));
            due(0, "no REFUSED", () -> x.house(2));
            due(1, "it has a WALK", () -> x.house(4));
        });
        eachWalk("promise 41, the KEY that it told last goes at its end, too", (t, isDown) -> {
            Pairpictures x = walked(t, isDown, 6);
            due(3, "dropLast", () -> x.dropLast(t));
            due(false, "has", () -> x.has(t, way(t, isDown)[3]));
            due(REFUSED, "dropLast again", () -> x.dropLast(t));
            due(3, "nothing changed", () -> x.size(t));
            due("none", "next", () -> x.next(t));
            due(false, "isMore", () -> x.isMore(t));
        });
    }

    private static void noOtherNext() {
        eachWalk("'What it is' 3, what comes next does not become another one between",
                (t, isDown) -> {
            Pairpictures none = new Pairpictures();
            none.walk(t, isDown);
            none.put(t, 5, 5);
            due(false, "begun at its end, isMore", () -> none.isMore(t));
            due("none", "begun at its end, next", () -> none.next(t));
            due(REFUSED, "begun at its end, dropLast", () -> none.dropLast(t));

            Pairpictures ended = walked(t, isDown, 4);
            ended.put(t, MIN, 0);
            ended.put(t, MAX, 0);
            due(false, "stepped to its end, isMore", () -> ended.isMore(t));
            due("none", "stepped to its end, next", () -> ended.next(t));

            Pairpictures last = walked(t, isDown, 3);
            last.drop(t, way(t, isDown)[3]);
            due(true, "the KEY that comes next went, isMore", () -> last.isMore(t));
            due("!", "the KEY that comes next went, next", () -> last.next(t));

            Pairpictures begun = walked(t, isDown, 0);
            begun.empty(t);
            due(true, "all went, isMore", () -> begun.isMore(t));
            due("!", "all went, next", () -> begun.next(t));
        });
    }

    // ---- told nothing yet, and what the WALK itself drops

    private static void toldNone() {
        eachWalk("promise 41, REFUSED if it told none since it was begun", (t, isDown) -> {
            int[] way = way(t, isDown);
            Pairpictures x = walked(t, isDown, 0);
            due(REFUSED, "dropLast", () -> x.dropLast(t));
            due(4, "nothing went", () -> x.size(t));
            due(way[0], "it goes on", () -> x.next(t));
            due(3, "dropLast then", () -> x.dropLast(t));
            due(REFUSED, "dropLast, none told since", () -> x.dropLast(t));
            due(REFUSED, "and again", () -> x.dropLast(t));
            due(way[1], "it goes on then", () -> x.next(t));
            due(2, "dropLast of that", () -> x.dropLast(t));
            due(way[2], "and goes on", () -> x.next(t));
            due(way[3], "to the last", () -> x.next(t));
            due(1, "dropLast of the last", () -> x.dropLast(t));
            due(way[2], "what was told, but not last, stays", () -> x.keys(t, false, false));
        });
    }

    private static void allDropped() {
        eachWalk("'What it is' 3, LOST, but by the WALK itself", (t, isDown) -> {
            Pairpictures x = filled(t);
            x.walk(t, isDown);
            int left = 4;
            for (int key : way(t, isDown)) {
                due(key, "next", () -> x.next(t));
                int then = --left;
                due(then, "dropLast", () -> x.dropLast(t));
                due(then > 0, "isMore", () -> x.isMore(t));
            }
            due("{}", "all went", () -> x.text(t));
            due("none", "next", () -> x.next(t));
            due(REFUSED, "dropLast, all went", () -> x.dropLast(t));
            due(1, "REFUSED once", () -> x.house(2));
        });
        eachWalk("'What it is' 3, LOST though the WALK itself dropped, too", (t, isDown) -> {
            Pairpictures x = walked(t, isDown, 1);
            x.dropLast(t);
            x.put(t, 4, 4);
            due("!", "next after a put", () -> x.next(t));
            Pairpictures y = walked(t, isDown, 2);
            y.put(t, 4, 4);
            due(REFUSED, "dropLast of what was told", () -> y.dropLast(t));
            due("!", "next", () -> y.next(t));
            due(5, "nothing went", () -> y.size(t));
        });
        eachWalk("'What it is' 3, the KEY told last went and came again", (t, isDown) -> {
            Pairpictures x = walked(t, isDown, 2);
            int key = way(t, isDown)[1];
            x.drop(t, key);
            x.put(t, key, 1);
            due(REFUSED, "dropLast", () -> x.dropLast(t));
            due(true, "it stays", () -> x.has(t, key));
        });
    }

    private static void otherValue() {
        eachWalk("'What it is' 3, another VALUE does not matter", (t, isDown) -> {
            Pairpictures x = walked(t, isDown, 2);
            int[] way = way(t, isDown);
            x.put(t, way[1], 98);
            x.put(t, way[2], 97);
            due(3, "the KEY told last goes with its new VALUE", () -> x.dropLast(t));
            due(false, "it went", () -> x.hasValue(t, 98));
            due(way[2], "the KEY that comes next has a new VALUE", () -> x.next(t));
            due(2, "it goes, too", () -> x.dropLast(t));
            due(false, "that went", () -> x.hasValue(t, 97));
        });
    }

    // ---- a new one

    private static void anew() {
        eachWalk("promise 38, a new one takes the place of the one before", (t, isDown) -> {
            int[] way = way(t, isDown);
            int[] back = way(t, !isDown);
            Pairpictures x = walked(t, isDown, 2);
            due(true, "the other way", () -> x.walk(t, !isDown));
            due(back[0], "from its first", () -> x.next(t));
            due(true, "this way again", () -> x.walk(t, isDown));
            due(REFUSED, "what the one before told does not matter", () -> x.dropLast(t));
            due(way[0], "from the first again", () -> x.next(t));
            due(1, "one TABLE has a WALK", () -> x.house(4));

            Pairpictures lost = walked(t, isDown, 2);
            lost.put(t, 4, 4);
            due("!", "LOST", () -> lost.next(t));
            due(true, "begun anew", () -> lost.walk(t, isDown));
            due(way[0], "not LOST any more", () -> lost.next(t));
            due(4, "and it may drop", () -> lost.dropLast(t));

            Pairpictures ended = walked(t, isDown, 4);
            due(true, "at its end, begun anew", () -> ended.walk(t, isDown));
            due(way[0], "from the first", () -> ended.next(t));

            Pairpictures gone = walked(t, isDown, 1);
            gone.empty(t);
            due(false, "begun anew in an empty TABLE", () -> gone.walk(t, isDown));
            due("none", "at its end", () -> gone.next(t));
        });
    }

    private static void counted() {
        about("promise 42, how many TABLES have a WALK");
        Pairpictures x = filled(0);
        due(0, "none", () -> x.house(4));
        x.walk(0, false);
        due(1, "one", () -> x.house(4));
        x.walk(0, true);
        due(1, "a new one of the same TABLE", () -> x.house(4));
        x.walk(1, true);
        due(2, "one that is at its end as it is begun", () -> x.house(4));
        told(() -> x.walk(3, true));
        due(2, "none of a TABLE that is not", () -> x.house(4));
        x.walk(2, false);
        due(3, "all", () -> x.house(4));
        x.empty(0);
        due(3, "one is LOST", () -> x.house(4));
    }

    public static void main(String[] args) {
        losses();
        valuesOnly();
        nothingDone();
        lookedAt();
        end();
        noOtherNext();
        toldNone();
        allDropped();
        otherValue();
        anew();
        counted();
        end("boundaries of walks");
    }
}

import java.lang.management.ManagementFactory;

/** 512 calls that bring as much as they can, calls after them, and what the dearest runs make. */
public final class PairpicturesLimits extends Sentences {
    private static final int CALLS = 512;
    // The room of a run is 7.3 million fields and elements; a byte a sign is the least they take.
    private static final long DEAREST_BYTES = 7_300_000L;

    private interface Keys {
        int of(int number);
    }

    /** The longest KEYS, none of them next to another, neither up nor down: 7 has no divisor with 512. */
    private static int mixed(int number) {
        return MIN + 2 * (number * 7 % CALLS);
    }

    private static void fill(Pairpictures x, int table, int count, Keys keys) {
        for (int number = 0; number < count; number++) {
            x.put(table, keys.of(number), number % 100);
        }
    }

    private static void eachTable(Keys keys) {
        for (int table = 0; table <= 2; table++) {
            calls(table, keys);
        }
    }

    /** Each object is asked once, by its 512th call, after 511 puts (or 510 and one more call). */
    private static void calls(int t, Keys keys) {
        lastCall(t, keys, CALLS - 1, "size", x -> x.size(t));
        lastCall(t, keys, NONE, "put", x -> x.put(t, MAX, 1));
        lastCall(t, keys, 98, "value", x -> x.value(t, keys.of(98)));
        lastCall(t, keys, true, "isSound", x -> x.isSound());
        lastCall(t, keys, CALLS - 1, "empty", x -> x.empty(t));
        lastCall(t, keys, CALLS - 1, "addAll", x -> x.addAll((t + 1) % 3, t));
        lastCall(t, keys, CALLS - 1, "addAll of itself", x -> x.addAll(t, t));
        lastCall(t, keys, CALLS - 1, "house", x -> x.house(0));
        lastCall(t, keys, CALLS - 1, "KEYS", x -> x.keys(t, true, true).split(" ").length);
        lastCall(t, keys, CALLS - 1, "pairs of the text", x -> x.text(t).split(", ").length);
        lastCall(t, keys, NO_PLACE, "rewrite behind the last", x -> x.rewrite(t, CALLS - 1, 1));
        lastCall(t, keys, true, "hash", x -> x.hash(t) == hashOf(keys));
        lastCall(t, keys, true, "rewrite", x -> x.rewrite(t, CALLS - 2, 1) >= 0);
        lastCall(t, keys, true, "walk", x -> x.walk(t, true));
        lastCall(t, keys, 98, "drop", x -> x.drop(t, keys.of(98)));
    }

    private static void lastCall(int table, Keys keys, Object want, String name, Call call) {
        Pairpictures x = new Pairpictures();
        fill(x, table, CALLS - 1, keys);
        due(want, name + " as the 512th call, TABLE " + table, () -> call.on(x));
    }

    private static int hashOf(Keys keys) {
        int hash = 0;
        for (int number = 0; number < CALLS - 1; number++) {
            hash += keys.of(number) ^ number % 100;
        }
        return hash;
    }

    private static void twoTables() {
        for (int table = 0; table <= 2; table++) {
            int t = table;
            int other = (table + 1) % 3;
            Pairpictures x = new Pairpictures();
            fill(x, t, CALLS - 2, PairpicturesLimits::mixed);
            x.addAll(other, t);
            due(true, "isSame of 510 pairs as the 512th call", () -> x.isSame(t, other));
        }
    }

    private static void comeAndGo() {
        for (int table = 0; table <= 2; table++) {
            int t = table;
            Pairpictures polled = new Pairpictures();
            fill(polled, t, CALLS / 2, number -> number);
            for (int number = 0; number < CALLS / 2; number++) {
                int key = t == 2 ? CALLS / 2 - 1 - number : number;
                due(key, "setPoll", () -> polled.setPoll(t, false, false));
            }
            Pairpictures walked = new Pairpictures();
            fill(walked, t, 170, number -> -number);
            walked.walk(t, false);
            for (int number = 0; number < 170; number++) {
                int key = t == 2 ? -number : number - 169;
                int left = 169 - number;
                due(key, "next", () -> walked.next(t));
                due(left, "dropLast", () -> walked.dropLast(t));
            }
            due("none", "next as the 512th call", () -> walked.next(t));
            Pairpictures same = new Pairpictures();
            for (int number = 0; number < CALLS / 2; number++) {
                due(NONE, "put of the KEY that went", () -> same.put(t, 5, 5));
                due(5, "drop", () -> same.drop(t, 5));
            }
        }
    }

    private static void counts() {
        Pairpictures knocked = new Pairpictures();
        Pairpictures refused = new Pairpictures();
        for (int number = 1; number <= CALLS; number++) {
            int want = number;
            due(want, "knock", () -> knocked.knock());
        }
        for (int number = 1; number < CALLS; number++) {
            due(REFUSED, "setAdd", () -> refused.setAdd(0, true, 5));
        }
        due(CALLS - 1, "how often REFUSED was told", () -> refused.house(2));
    }

    /** What these calls answer is free, but the machine must not throw in them. */
    private static void laterCalls() {
        Pairpictures x = new Pairpictures();
        fill(x, 0, CALLS, PairpicturesLimits::mixed);
        x.walk(0, true);
        for (int number = 0; number < 2000; number++) {
            x.put(0, number, 1);
            x.putNew(1, number, 2);
            x.put(2, -number, 3);
            x.addAll(1, 0);
            x.addAll(2, 1);
            x.next(0);
            x.dropLast(0);
            x.poll(0, true, 0);
            x.rewrite(0, 0, 0);
        }
        x.digest();
        x.isSound();
        x.text(2);
        x.keys(1, true, true);
    }

    private static void dear(String name, Call call) {
        com.sun.management.ThreadMXBean threads =
                (com.sun.management.ThreadMXBean) ManagementFactory.getThreadMXBean();
        long thread = Thread.currentThread().getId();
        long before = threads.getThreadAllocatedBytes(thread);
        Pairpictures x = new Pairpictures();
        fill(x, 0, CALLS / 2, PairpicturesLimits::mixed);
        for (int number = 2; number < CALLS / 2; number++) {
            call.on(x);
        }
        long made = threads.getThreadAllocatedBytes(thread) - before;
        if (made > DEAREST_BYTES) {
            fault(name + " made " + made + " bytes");
        }
    }

    private static void dearestCalls() {
        dear("text", x -> x.text(0));
        dear("keys", x -> x.keys(0, true, false));
        dear("digest", x -> x.digest());
        dear("isSound", x -> x.isSound());
        dear("addAll and empty", x -> x.addAll(2, 0) - x.empty(2));
        dear("walk and next", x -> x.walk(0, true) ? x.next(0) : "");
    }

    public static void main(String[] args) {
        about("512 calls, KEYS up", () -> eachTable(number -> number));
        about("512 calls, KEYS down", () -> eachTable(number -> -number));
        about("512 calls, KEYS mixed", () -> eachTable(PairpicturesLimits::mixed));
        about("512 calls, two TABLES", PairpicturesLimits::twoTables);
        about("512 calls, pairs come and go", PairpicturesLimits::comeAndGo);
        about("512 calls, what is counted", PairpicturesLimits::counts);
        about("calls after the 512th", PairpicturesLimits::laterCalls);
        about("the room of a run", PairpicturesLimits::dearestCalls);
        end("limits");
    }
}

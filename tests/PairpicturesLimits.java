/** 512 calls that bring as much as they can, calls after them, and what the dearest runs make. */
public final class PairpicturesLimits {
    private static final int CALLS = 512;
    // The room of a run is 7.3 million fields and elements; a byte a sign is the least they take.
    private static final long DEAREST_BYTES = 7_300_000L;

    private static int wrong = 0;

    private static void due(String name, Object got, Object want) {
        if (!want.equals(got)) {
            wrong++;
            System.out.println(name + " answered " + got + ", due is " + want);
        }
    }

    /** The longest keys, none of them next to another. */
    private static int keyOf(int number) {
        return Integer.MIN_VALUE + 2 * number;
    }

    private static void fill(Pairpictures x, int table, int count) {
        for (int number = 0; number < count; number++) {
            // Neither up nor down: 7 has no divisor with 512.
            x.put(table, keyOf(number * 7 % CALLS), number % 100);
        }
    }

    private static void allCallsPut() {
        for (int table = 0; table <= 2; table++) {
            Pairpictures x = new Pairpictures();
            fill(x, table, CALLS - 4);
            due("size", x.size(table), CALLS - 4);
            due("first", x.key(table, table == 2 ? 1 : 0, 0), "-2147483648");
            due("addAll", x.addAll((table + 1) % 3, table), CALLS - 4);
            due("isSame", x.isSame(table, (table + 1) % 3), true);
        }
        Pairpictures x = new Pairpictures();
        fill(x, 1, CALLS);
        due("size of 512 puts", x.size(1), CALLS);
        due("isSound of 512 puts", x.isSound(), true);
    }

    /** What these calls answer is free, but the machine must not throw in them. */
    private static void laterCalls() {
        Pairpictures x = new Pairpictures();
        fill(x, 0, CALLS);
        x.walk(0, true);
        for (int number = 0; number < 2000; number++) {
            x.put(0, number, 1);
            x.putNew(1, number, 2);
            x.put(2, -number, 3);
            x.addAll(1, 0);
            x.addAll(2, 1);
            x.next(0);
            x.dropLast(0);
            x.poll(0, true, 0);
            x.rewrite(0, 0, 0);
        }
        x.digest();
        x.isSound();
        x.text(2);
        x.keys(1, true, true);
    }

    private interface Call {
        void on(Pairpictures x);
    }

    private static void dear(String name, Call call) {
        com.sun.management.ThreadMXBean threads = (com.sun.management.ThreadMXBean)
                java.lang.management.ManagementFactory.getThreadMXBean();
        long thread = Thread.currentThread().getId();
        long before = threads.getThreadAllocatedBytes(thread);
        Pairpictures x = new Pairpictures();
        fill(x, 0, CALLS / 2);
        for (int number = 2; number < CALLS / 2; number++) {
            call.on(x);
        }
        long made = threads.getThreadAllocatedBytes(thread) - before;
        if (made > DEAREST_BYTES) {
            wrong++;
            System.out.println(name + " made " + made + " bytes");
        }
    }

    private static void dearestCalls() {
        dear("text", x -> x.text(0));
        dear("keys", x -> x.keys(0, true, false));
        dear("digest", x -> x.digest());
        dear("isSound", x -> x.isSound());
        dear("addAll and empty", x -> {
            x.addAll(2, 0);
            x.empty(2);
        });
        dear("next", x -> {
            x.walk(0, true);
            x.next(0);
        });
    }

    public static void main(String[] args) {
        allCallsPut();
        laterCalls();
        dearestCalls();
        System.out.println(wrong == 0 ? "limits: all as due" : wrong + " limits are not as due");
        if (wrong != 0) {
            System.exit(1);
        }
    }
}

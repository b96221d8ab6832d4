import java.util.concurrent.Callable;

/** What the tests share: each answer is compared with the one that the document's sentence asks for. */
abstract class Sentences {
    static final String NO_PLACE = "throws.IndexOutOfBoundsException";
    static final String BAD = "throws.IllegalArgumentException";
    static final String BAD_STATE = "throws.IllegalStateException";
    static final int MIN = Integer.MIN_VALUE;
    static final int MAX = Integer.MAX_VALUE;
    static final int NONE = -1;
    static final int REFUSED = -9;

    private static int wrong = 0;
    private static String sentence = "";

    interface Call {
        Object on(Pairpictures x);
    }

    /** The sentence that the answers from now on belong to. */
    static void about(String text) {
        sentence = text;
    }

    static void about(String text, Runnable part) {
        about(text);
        part.run();
    }

    static void fault(String what) {
        wrong++;
        System.out.println(sentence.isEmpty() ? what : sentence + ": " + what);
    }

    static String told(Callable<Object> call) {
        try {
            return String.valueOf(call.call());
        } catch (Exception thrown) {
            return "throws." + thrown.getClass().getSimpleName();
        }
    }

    static void due(Object want, String name, Callable<Object> call) {
        String got = told(call);
        if (!got.equals(String.valueOf(want))) {
            fault(name + " answered " + got + ", due is " + want);
        }
    }

    /** Ends the test: with exit code 1, if an answer was not as due. */
    static void end(String test) {
        System.out.println(test + (wrong == 0 ? ": all as due" : ": " + wrong + " not as due"));
        if (wrong != 0) {
            System.exit(1);
        }
    }

    /** Table 0 or 1: {1=10, 3=null, 5=50, 9=7}; table 2 the other way round. */
    static void fill(Pairpictures x, int table) {
        x.put(table, 5, 50);
        x.put(table, 1, 10);
        x.put(table, 9, 7);
        x.put(table, 3, NONE);
    }

    static Pairpictures filled(int table) {
        Pairpictures x = new Pairpictures();
        fill(x, table);
        return x;
    }

    /**
     * Something of everything: a walk that told two keys, one at its end and one that told none,
     * pictures 0 to 5 and 7 (6 is none), a table without pairs (1), a refusal and a knock.
     */
    static Pairpictures rich() {
        Pairpictures x = filled(0);
        fill(x, 2);
        for (int which = 0; which <= 5; which++) {
            x.picture(0, which, 5, which);
        }
        x.picture(2, 3, 3, 7);
        x.walk(0, false);
        x.next(0);
        x.next(0);
        x.walk(1, false);
        x.walk(2, true);
        x.setAdd(0, false, 4);
        x.knock();
        return x;
    }

    /**
     * All that the face tells of an object but how often REFUSED was told; at last its walks drop
     * what they told and step on, so that is seen too.
     */
    static String shown(Pairpictures x) {
        StringBuilder all = new StringBuilder();
        for (int table = 0; table <= 2; table++) {
            all.append(x.text(table)).append(x.size(table)).append(' ').append(x.hash(table));
            all.append(x.keys(table, false, false)).append('|').append(x.keys(table, true, false));
        }
        for (int slot = 0; slot <= 7; slot++) {
            all.append(' ').append(x.isThere(slot) ? x.textOf(slot) : "no");
        }
        all.append(" house ").append(x.house(0)).append(' ').append(x.house(1));
        all.append(' ').append(x.house(3)).append(' ').append(x.house(4));
        for (int table = 0; table <= 2; table++) {
            all.append(" walk ").append(walkShown(x, table));
        }
        return all.toString();
    }

    private static String walkShown(Pairpictures x, int table) {
        StringBuilder all = new StringBuilder();
        all.append(told(() -> x.isMore(table)));
        for (int step = 0; step < 3; step++) {
            all.append(' ').append(told(() -> x.dropLast(table)));
            all.append(' ').append(x.text(table));
            all.append(' ').append(told(() -> x.next(table)));
        }
        return all.toString();
    }

    interface Maker {
        Pairpictures made();
    }

    /** The call answers what is due, changes nothing, and tells REFUSED so often (0 or 1). */
    static void changesNothing(Object want, String name, Maker maker, Call call, int refusals) {
        Pairpictures x = maker.made();
        Pairpictures twin = maker.made();
        int before = x.house(2);
        due(want, name, () -> call.on(x));
        due(before + refusals, "how often REFUSED was told with " + name, () -> x.house(2));
        due(shown(twin), "what is shown after " + name, () -> shown(x));
    }

    static void throwsOnly(Object want, String name, Maker maker, Call call) {
        changesNothing(want, name, maker, call, 0);
    }
}

/**
 * Three tables of pairs in an order of their keys, eight pictures of pairs, the tables' keys as
 * sets in both directions, and walks through these sets.
 */
public final class Pairpictures {
    private static final int NONE = -1;
    private static final int REFUSED = -9;
    private static final int TABLE_COUNT = 3;
    private static final int PICTURE_COUNT = 8;
    private static final int TOP_VALUE = 99;

    // An object is used for at most 512 calls, and a call brings at most one key that no table had.
    private static final int ROOM = 512;

    private static final int FIRST = 0;
    private static final int LAST = 1;
    private static final int BEFORE = 2;
    private static final int AT_OR_BEFORE = 3;
    private static final int AT_OR_BEHIND = 4;
    private static final int BEHIND = 5;

    private static final String NO_KEY = "none";
    private static final String REFUSED_TEXT = "!";
    private static final String NOTHING_TEXT = "null";
    private static final long DIGEST_START = 7782;

    private final Table table0;
    private final Table table1;
    private final Table table2;
    private final Table anew;
    private final Album album;
    // One sheet for all texts of the object: what every call makes is counted.
    private final StringBuilder sheet;
    private int refusals;
    private int knocks;

    public Pairpictures() {
        table0 = new Table(false);
        table1 = new Table(false);
        table2 = new Table(true);
        anew = new Table(false);
        album = new Album();
        sheet = new StringBuilder();
    }

    // ---- pairs

    public int put(int table, int key, int value)
            throws IndexOutOfBoundsException, IllegalArgumentException {
        Table pairs = tableOf(table);
        needValue(value);
        return pairs.bring(key, value);
    }

    public int putNew(int table, int key, int value)
            throws IndexOutOfBoundsException, IllegalArgumentException {
        Table pairs = tableOf(table);
        needValue(value);
        int before = pairs.valueAt(pairs.placeWith(key));
        if (before == NONE) {
            pairs.bring(key, value);
        }
        return before;
    }

    public int replace(int table, int key, int value)
            throws IndexOutOfBoundsException, IllegalArgumentException {
        Table pairs = tableOf(table);
        needValue(value);
        return pairs.rewriteAt(pairs.placeWith(key), value);
    }

    public boolean swap(int table, int key, int old, int value)
            throws IndexOutOfBoundsException, IllegalArgumentException {
        Table pairs = tableOf(table);
        needValue(old);
        needValue(value);
        int place = pairs.placeWith(key);
        if (place == NONE || pairs.valueAt(place) != old) {
            return false;
        }
        pairs.rewriteAt(place, value);
        return true;
    }

    public int drop(int table, int key) throws IndexOutOfBoundsException {
        Table pairs = tableOf(table);
        int place = pairs.placeWith(key);
        int before = pairs.valueAt(place);
        pairs.takeAt(place);
        return before;
    }

    public boolean dropPair(int table, int key, int value)
            throws IndexOutOfBoundsException, IllegalArgumentException {
        Table pairs = tableOf(table);
        needValue(value);
        int place = pairs.placeWith(key);
        if (place == NONE || pairs.valueAt(place) != value) {
            return false;
        }
        pairs.takeAt(place);
        return true;
    }

    public int empty(int table) throws IndexOutOfBoundsException {
        Table pairs = tableOf(table);
        int before = pairs.count;
        pairs.takeAll();
        return before;
    }

    public int addAll(int table, int other) throws IndexOutOfBoundsException {
        Table pairs = tableOf(table);
        Table added = tableOf(other);
        // Both may be the same table: how many come is settled before the first one does.
        int all = added.count;
        for (int place = 0; place < all; place++) {
            pairs.bring(added.keyAt(place), added.valueAt(place));
        }
        return pairs.count;
    }

    public int rewrite(int table, int place, int value)
            throws IndexOutOfBoundsException, IllegalArgumentException {
        Table pairs = tableOf(table);
        if (place < 0 || place >= pairs.count) {
            throw new IndexOutOfBoundsException("no such place");
        }
        needValue(value);
        return pairs.rewriteAt(place, value);
    }

    public int value(int table, int key) throws IndexOutOfBoundsException {
        Table pairs = tableOf(table);
        return pairs.valueAt(pairs.placeWith(key));
    }

    public int valueOr(int table, int key, int other) throws IndexOutOfBoundsException {
        Table pairs = tableOf(table);
        int place = pairs.placeWith(key);
        return place == NONE ? other : pairs.valueAt(place);
    }

    public boolean has(int table, int key) throws IndexOutOfBoundsException {
        return tableOf(table).placeWith(key) != NONE;
    }

    public boolean hasValue(int table, int value)
            throws IndexOutOfBoundsException, IllegalArgumentException {
        Table pairs = tableOf(table);
        needValue(value);
        for (int place = 0; place < pairs.count; place++) {
            if (pairs.valueAt(place) == value) {
                return true;
            }
        }
        return false;
    }

    public int size(int table) throws IndexOutOfBoundsException {
        return tableOf(table).count;
    }

    public boolean isEmpty(int table) throws IndexOutOfBoundsException {
        return tableOf(table).count == 0;
    }

    public String text(int table) throws IndexOutOfBoundsException {
        writeTable(tableOf(table));
        return sheet.toString();
    }

    public int hash(int table) throws IndexOutOfBoundsException {
        return tableOf(table).sumOfHashes();
    }

    public boolean isSame(int table, int other) throws IndexOutOfBoundsException {
        Table pairs = tableOf(table);
        return pairs.hasPairsOf(tableOf(other));
    }

    public boolean isTurned(int table) throws IndexOutOfBoundsException {
        return tableOf(table).isGreaterAhead;
    }

    // ---- keys and pictures

    public String key(int table, int which, int key)
            throws IndexOutOfBoundsException, IllegalArgumentException {
        Table pairs = tableOf(table);
        needWhich(which);
        return keyTextOrRefusal(pairs, which, pairs.find(false, which, key));
    }

    public boolean picture(int table, int which, int key, int slot)
            throws IndexOutOfBoundsException, IllegalArgumentException {
        Table pairs = tableOf(table);
        needSlot(slot);
        needWhich(which);
        return takePicture(pairs, pairs.find(false, which, key), slot);
    }

    public boolean poll(int table, boolean isLast, int slot) throws IndexOutOfBoundsException {
        Table pairs = tableOf(table);
        needSlot(slot);
        int place = pairs.find(false, isLast ? LAST : FIRST, 0);
        boolean isTaken = takePicture(pairs, place, slot);
        pairs.takeAt(place);
        return isTaken;
    }

    public boolean isThere(int slot) throws IndexOutOfBoundsException {
        needSlot(slot);
        return album.isTakenAt(slot);
    }

    public int keyOf(int slot) throws IndexOutOfBoundsException, IllegalStateException {
        needSlot(slot);
        needTaken(slot);
        return album.keyAt(slot);
    }

    public int valueOf(int slot) throws IndexOutOfBoundsException, IllegalStateException {
        needSlot(slot);
        needTaken(slot);
        return album.valueAt(slot);
    }

    public String textOf(int slot) throws IndexOutOfBoundsException, IllegalStateException {
        needSlot(slot);
        needTaken(slot);
        sheet.setLength(0);
        writePair(album.keyAt(slot), album.valueAt(slot));
        return sheet.toString();
    }

    public int hashOf(int slot) throws IndexOutOfBoundsException, IllegalStateException {
        needSlot(slot);
        needTaken(slot);
        return pairHash(album.keyAt(slot), album.valueAt(slot));
    }

    public int writeTo(int slot, int value)
            throws IndexOutOfBoundsException, IllegalArgumentException, IllegalStateException {
        needSlot(slot);
        needValue(value);
        needTaken(slot);
        return refuse();
    }

    public boolean areAlike(int slot, int other)
            throws IndexOutOfBoundsException, IllegalStateException {
        needSlot(slot);
        needSlot(other);
        needTaken(slot);
        needTaken(other);
        return album.keyAt(slot) == album.keyAt(other)
                && album.valueAt(slot) == album.valueAt(other);
    }

    // ---- sets of keys

    public String setKey(int table, boolean isDown, int which, int key)
            throws IndexOutOfBoundsException, IllegalArgumentException {
        Table pairs = tableOf(table);
        needWhich(which);
        return keyTextOrRefusal(pairs, which, pairs.find(isDown, which, key));
    }

    public String setPoll(int table, boolean isDown, boolean isLast)
            throws IndexOutOfBoundsException {
        Table pairs = tableOf(table);
        int place = pairs.find(isDown, isLast ? LAST : FIRST, 0);
        writeKey(pairs, place);
        pairs.takeAt(place);
        return sheet.toString();
    }

    public boolean setDrop(int table, boolean isDown, int key) throws IndexOutOfBoundsException {
        Table pairs = tableOf(table);
        int place = pairs.placeWith(key);
        pairs.takeAt(place);
        return place != NONE;
    }

    public int setAdd(int table, boolean isDown, int key) throws IndexOutOfBoundsException {
        needTable(table);
        return refuse();
    }

    public boolean setHas(int table, boolean isDown, int key) throws IndexOutOfBoundsException {
        return tableOf(table).placeWith(key) != NONE;
    }

    public int setSize(int table, boolean isDown) throws IndexOutOfBoundsException {
        return tableOf(table).count;
    }

    public String keys(int table, boolean isDown, boolean isBack)
            throws IndexOutOfBoundsException {
        Table pairs = tableOf(table);
        sheet.setLength(0);
        for (int step = 0; step < pairs.count; step++) {
            if (step > 0) {
                sheet.append(' ');
            }
            sheet.append(pairs.keyAt(pairs.placeInSet(isDown != isBack, step)));
        }
        return sheet.toString();
    }

    // ---- walks

    public boolean walk(int table, boolean isDown) throws IndexOutOfBoundsException {
        Table pairs = tableOf(table);
        pairs.walk.begin(isDown);
        seeNext(pairs, pairs.find(isDown, FIRST, 0));
        return pairs.walk.hasNext;
    }

    public boolean isMore(int table) throws IndexOutOfBoundsException, IllegalStateException {
        Table pairs = tableOf(table);
        needWalk(pairs);
        return pairs.walk.hasNext;
    }

    public String next(int table) throws IndexOutOfBoundsException, IllegalStateException {
        Table pairs = tableOf(table);
        needWalk(pairs);
        Walk walk = pairs.walk;
        if (!walk.hasNext) {
            return NO_KEY;
        }
        if (walk.isLost) {
            return refuseText();
        }
        walk.tellNext();
        seeNext(pairs, pairs.find(walk.isDown, BEHIND, walk.toldKey));
        sheet.setLength(0);
        sheet.append(walk.toldKey);
        return sheet.toString();
    }

    public int dropLast(int table) throws IndexOutOfBoundsException, IllegalStateException {
        Table pairs = tableOf(table);
        needWalk(pairs);
        Walk walk = pairs.walk;
        if (walk.isLost || !walk.hasTold) {
            return refuse();
        }
        pairs.takeAt(pairs.placeWith(walk.toldKey));
        walk.forgetTold();
        return pairs.count;
    }

    // ---- the whole

    public int house(int what) throws IllegalArgumentException {
        switch (what) {
            case 0:
                return table0.count + table1.count + table2.count;
            case 1:
                return album.countTaken();
            case 2:
                return refusals;
            case 3:
                return knocks;
            case 4:
                return (table0.walk.isBegun ? 1 : 0)
                        + (table1.walk.isBegun ? 1 : 0)
                        + (table2.walk.isBegun ? 1 : 0);
            default:
                throw new IllegalArgumentException("what is not 0 to 4");
        }
    }

    public int knock() {
        knocks++;
        return knocks;
    }

    public boolean isSound() {
        return isTableSound(table0) && isTableSound(table1) && isTableSound(table2);
    }

    public long digest() {
        long sum = DIGEST_START;
        for (int what = 0; what <= 4; what++) {
            sum = fold(sum, house(what));
        }
        sum = foldTable(sum, table0);
        sum = foldTable(sum, table1);
        sum = foldTable(sum, table2);
        for (int slot = 0; slot < PICTURE_COUNT; slot++) {
            sum = foldPicture(sum, slot);
        }
        sum = fold(sum, table0.hasPairsOf(table1) ? 1 : 0);
        sum = fold(sum, table0.hasPairsOf(table2) ? 1 : 0);
        sum = fold(sum, table1.hasPairsOf(table2) ? 1 : 0);
        return fold(sum, isSound() ? 1 : 0);
    }

    // ---- what a call needs

    private static void needTable(int table) {
        if (table < 0 || table >= TABLE_COUNT) {
            throw new IndexOutOfBoundsException("no such TABLE");
        }
    }

    private Table tableOf(int table) {
        needTable(table);
        return table == 0 ? table0 : table == 1 ? table1 : table2;
    }

    private static void needSlot(int slot) {
        if (slot < 0 || slot >= PICTURE_COUNT) {
            throw new IndexOutOfBoundsException("no such PICTURE");
        }
    }

    private void needTaken(int slot) {
        if (!album.isTakenAt(slot)) {
            throw new IllegalStateException("the PICTURE is none");
        }
    }

    private static void needValue(int value) {
        if (value < NONE || value > TOP_VALUE) {
            throw new IllegalArgumentException("no VALUE");
        }
    }

    private static void needWhich(int which) {
        if (which < FIRST || which > BEHIND) {
            throw new IllegalArgumentException("which is not 0 to 5");
        }
    }

    private static void needWalk(Table pairs) {
        if (!pairs.walk.isBegun) {
            throw new IllegalStateException("the TABLE has no WALK");
        }
    }

    // ---- refusals, texts, pictures, steps

    private int refuse() {
        refusals++;
        return REFUSED;
    }

    private String refuseText() {
        refusals++;
        return REFUSED_TEXT;
    }

    private String keyTextOrRefusal(Table pairs, int which, int place) {
        if (place == NONE && (which == FIRST || which == LAST)) {
            return refuseText();
        }
        writeKey(pairs, place);
        return sheet.toString();
    }

    private void writeKey(Table pairs, int place) {
        sheet.setLength(0);
        if (place == NONE) {
            sheet.append(NO_KEY);
        } else {
            sheet.append(pairs.keyAt(place));
        }
    }

    private void writePair(int key, int value) {
        sheet.append(key);
        sheet.append('=');
        if (value == NONE) {
            sheet.append(NOTHING_TEXT);
        } else {
            sheet.append(value);
        }
    }

    private void writeTable(Table pairs) {
        sheet.setLength(0);
        sheet.append('{');
        for (int place = 0; place < pairs.count; place++) {
            if (place > 0) {
                sheet.append(", ");
            }
            writePair(pairs.keyAt(place), pairs.valueAt(place));
        }
        sheet.append('}');
    }

    private boolean takePicture(Table pairs, int place, int slot) {
        if (place == NONE) {
            album.clearAt(slot);
            return false;
        }
        album.takeAt(slot, pairs.keyAt(place), pairs.valueAt(place));
        return true;
    }

    private static void seeNext(Table pairs, int place) {
        pairs.walk.hasNext = place != NONE;
        pairs.walk.nextKey = pairs.keyAt(place);
    }

    private static int pairHash(int key, int value) {
        return value == NONE ? key : key ^ value;
    }

    // ---- soundness

    private boolean isTableSound(Table pairs) {
        if (!isInOrder(pairs) || !areSetsAlike(pairs) || !isSameAnew(pairs)) {
            return false;
        }
        for (int place = 0; place < pairs.count; place++) {
            if (!areAnswersRightNear(pairs, pairs.keyAt(place))) {
                return false;
            }
        }
        for (int slot = 0; slot < PICTURE_COUNT; slot++) {
            if (album.isTakenAt(slot) && !areAnswersRightNear(pairs, album.keyAt(slot))) {
                return false;
            }
        }
        return true;
    }

    private static boolean isInOrder(Table pairs) {
        for (int place = 1; place < pairs.count; place++) {
            if (!pairs.isAhead(pairs.keyAt(place - 1), pairs.keyAt(place))) {
                return false;
            }
        }
        return true;
    }

    private static boolean areSetsAlike(Table pairs) {
        int last = pairs.count - 1;
        for (int step = 0; step <= last; step++) {
            int key = pairs.keyAt(step);
            if (key != pairs.keyAt(pairs.placeInSet(false, step))
                    || key != pairs.keyAt(pairs.placeInSet(true, last - step))) {
                return false;
            }
        }
        return true;
    }

    private boolean isSameAnew(Table pairs) {
        anew.takeAll();
        int all = pairs.count;
        for (int place = 0; place < all; place++) {
            anew.bring(pairs.keyAt(place), pairs.valueAt(place));
        }
        return pairs.hasPairsOf(anew) && pairs.sumOfHashes() == anew.sumOfHashes();
    }

    private static boolean areAnswersRightNear(Table pairs, int key) {
        // In long: 1 less and 1 more may be no ints.
        for (long near = key - 1L; near <= key + 1L; near++) {
            int asked = (int) near;
            if (asked != near) {
                continue;
            }
            for (int which = FIRST; which <= BEHIND; which++) {
                // The pairs and the set up are asked by the very same call.
                int place = pairs.find(false, which, asked);
                if (!pairs.isRight(which, asked, place)
                        || pairs.find(true, Table.otherEnd(which), asked) != place) {
                    return false;
                }
            }
        }
        return true;
    }

    // ---- checksum

    private static long fold(long sum, int number) {
        return sum * 31 + number;
    }

    private long foldSheet(long sum) {
        long folded = sum;
        for (int sign = 0; sign < sheet.length(); sign++) {
            folded = fold(folded, sheet.charAt(sign));
        }
        return folded;
    }

    private long foldTable(long sum, Table pairs) {
        long folded = fold(sum, pairs.count);
        folded = fold(folded, pairs.sumOfHashes());
        writeTable(pairs);
        folded = foldSheet(folded);
        for (int which = BEFORE; which <= BEHIND; which++) {
            writeKey(pairs, pairs.find(false, which, 0));
            folded = foldSheet(folded);
        }
        return folded;
    }

    private long foldPicture(long sum, int slot) {
        if (!album.isTakenAt(slot)) {
            return fold(sum, 0);
        }
        int key = album.keyAt(slot);
        int value = album.valueAt(slot);
        long folded = fold(sum, 1);
        folded = fold(folded, key);
        folded = fold(folded, value);
        return fold(folded, pairHash(key, value));
    }

    /** A walk through one of a table's sets; it is kept with the table before it is begun, too. */
    private static final class Walk {
        private boolean isBegun;
        private boolean isDown;
        private boolean isLost;
        private boolean hasNext;
        private int nextKey;
        private boolean hasTold;
        private int toldKey;

        void begin(boolean isDownwards) {
            isBegun = true;
            isDown = isDownwards;
            isLost = false;
            hasTold = false;
        }

        void tellNext() {
            hasTold = true;
            toldKey = nextKey;
        }

        void forgetTold() {
            hasTold = false;
            // The table marks its walk as lost whenever a pair goes; this one went by the walk itself.
            isLost = false;
        }
    }

    /** The eight pictures: what each showed as it was taken. */
    private static final class Album {
        private final boolean[] takenRow;
        private final int[] keyRow;
        private final int[] valueRow;

        Album() {
            takenRow = new boolean[PICTURE_COUNT];
            keyRow = new int[PICTURE_COUNT];
            valueRow = new int[PICTURE_COUNT];
        }

        boolean isTakenAt(int slot) {
            return slot >= 0 && slot < PICTURE_COUNT && takenRow[slot];
        }

        int keyAt(int slot) {
            return slot >= 0 && slot < PICTURE_COUNT ? keyRow[slot] : 0;
        }

        int valueAt(int slot) {
            return slot >= 0 && slot < PICTURE_COUNT ? valueRow[slot] : NONE;
        }

        void takeAt(int slot, int key, int value) {
            if (slot >= 0 && slot < PICTURE_COUNT) {
                takenRow[slot] = true;
                keyRow[slot] = key;
                valueRow[slot] = value;
            }
        }

        void clearAt(int slot) {
            if (slot >= 0 && slot < PICTURE_COUNT) {
                takenRow[slot] = false;
            }
        }

        int countTaken() {
            int taken = 0;
            for (int slot = 0; slot < PICTURE_COUNT; slot++) {
                taken += takenRow[slot] ? 1 : 0;
            }
            return taken;
        }
    }

    /** The pairs of a table, side by side in its order; a place is told from 0 on, NONE is no place. */
    private static final class Table {
        private final boolean isGreaterAhead;
        private final int[] keyRow;
        private final int[] valueRow;
        private final Walk walk;
        // From 0 to ROOM at all times.
        private int count;

        Table(boolean isTurnedRound) {
            isGreaterAhead = isTurnedRound;
            keyRow = new int[ROOM];
            valueRow = new int[ROOM];
            walk = new Walk();
        }

        int keyAt(int place) {
            return place >= 0 && place < count ? keyRow[place] : 0;
        }

        int valueAt(int place) {
            return place >= 0 && place < count ? valueRow[place] : NONE;
        }

        boolean isAhead(int key, int other) {
            return isGreaterAhead ? key > other : key < other;
        }

        /** How many keys are ahead of a key; with the key's own, if that is asked for. */
        int countAhead(int key, boolean isWithKey) {
            int low = 0;
            int high = count;
            // Halving ROOM places ends long before; the steps are counted so that the end is plain.
            // No calls inside: isSound and digest search some thousand times.
            for (int step = 0; step < ROOM && low < high; step++) {
                int middle = (low + high) >>> 1;
                int there = middle < count ? keyRow[middle] : key;
                boolean isThereAhead = isGreaterAhead ? there > key : there < key;
                if (isThereAhead || isWithKey && there == key) {
                    low = middle + 1;
                } else {
                    high = middle;
                }
            }
            return low;
        }

        int placeOrNone(int place) {
            return place >= 0 && place < count ? place : NONE;
        }

        int placeWith(int key) {
            int place = countAhead(key, false);
            return place < count && keyAt(place) == key ? place : NONE;
        }

        int find(boolean isDown, int which, int key) {
            switch (isDown ? otherEnd(which) : which) {
                case FIRST:
                    return placeOrNone(0);
                case LAST:
                    return placeOrNone(count - 1);
                case BEFORE:
                    return placeOrNone(countAhead(key, false) - 1);
                case AT_OR_BEFORE:
                    return placeOrNone(countAhead(key, true) - 1);
                case AT_OR_BEHIND:
                    return placeOrNone(countAhead(key, false));
                case BEHIND:
                    return placeOrNone(countAhead(key, true));
                default:
                    return NONE;
            }
        }

        int placeInSet(boolean isDown, int step) {
            return isDown ? count - 1 - step : step;
        }

        /** What a WHICH of one direction is in the other one. */
        static int otherEnd(int which) {
            return which == FIRST || which == LAST ? LAST - which : BEHIND + BEFORE - which;
        }

        int bring(int key, int value) {
            int place = countAhead(key, false);
            if (place < count && keyAt(place) == key) {
                return rewriteAt(place, value);
            }
            insertAt(place, key, value);
            return NONE;
        }

        int rewriteAt(int place, int value) {
            if (place < 0 || place >= count) {
                return NONE;
            }
            int before = valueRow[place];
            valueRow[place] = value;
            return before;
        }

        void insertAt(int place, int key, int value) {
            if (place < 0 || place > count || count >= ROOM) {
                return;
            }
            System.arraycopy(keyRow, place, keyRow, place + 1, count - place);
            System.arraycopy(valueRow, place, valueRow, place + 1, count - place);
            keyRow[place] = key;
            valueRow[place] = value;
            count++;
            walk.isLost = true;
        }

        void takeAt(int place) {
            if (place < 0 || place >= count) {
                return;
            }
            System.arraycopy(keyRow, place + 1, keyRow, place, count - place - 1);
            System.arraycopy(valueRow, place + 1, valueRow, place, count - place - 1);
            count--;
            walk.isLost = true;
        }

        void takeAll() {
            if (count > 0) {
                count = 0;
                walk.isLost = true;
            }
        }

        boolean hasPairsOf(Table other) {
            if (count != other.count) {
                return false;
            }
            for (int place = 0; place < count; place++) {
                int otherPlace = other.placeWith(keyAt(place));
                if (otherPlace == NONE || valueAt(place) != other.valueAt(otherPlace)) {
                    return false;
                }
            }
            return true;
        }

        int sumOfHashes() {
            int sum = 0;
            for (int place = 0; place < count; place++) {
                sum += pairHash(keyAt(place), valueAt(place));
            }
            return sum;
        }

        /** Whether a place is the one that WHICH asks for, seen from its neighbours in the order. */
        boolean isRight(int which, int key, int place) {
            int border = place == NONE ? count : place;
            switch (which) {
                case FIRST:
                    return place == (count == 0 ? NONE : 0);
                case LAST:
                    return place == (count == 0 ? NONE : count - 1);
                case BEFORE:
                    return isBorder(key, false, place + 1);
                case AT_OR_BEFORE:
                    return isBorder(key, true, place + 1);
                case AT_OR_BEHIND:
                    return isBorder(key, false, border);
                case BEHIND:
                    return isBorder(key, true, border);
                default:
                    return false;
            }
        }

        /** Whether the keys up to a border are ahead of a key (or it, too), and those from there on not. */
        boolean isBorder(int key, boolean isWithKey, int border) {
            boolean isLeftRight = border == 0 || isAhead(keyAt(border - 1), key)
                    || isWithKey && keyAt(border - 1) == key;
            boolean isRightRight = border == count || isAhead(key, keyAt(border))
                    || !isWithKey && keyAt(border) == key;
            return isLeftRight && isRightRight;
        }
    }
}

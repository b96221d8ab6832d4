import java.util.ArrayList;
import java.util.ConcurrentModificationException;
import java.util.Collections;
import java.util.Iterator;
import java.util.List;
import java.util.Map;
import java.util.NavigableSet;
import java.util.NoSuchElementException;
import java.util.Objects;
import java.util.TreeMap;

/** Long runs of calls with drawn arguments, each answer compared with that of the library's TreeMap. */
public final class PairpicturesAgainstTreeMap {
    private static final int RUNS = 1500;
    private static final int CALLS = 512;
    private static final int METHODS = 44;
    private static final int[] EDGE_KEYS = {Integer.MIN_VALUE, Integer.MIN_VALUE + 1,
        Integer.MAX_VALUE, Integer.MAX_VALUE - 1};

    private static int wrong = 0;

    /** The same numbers in every run of this test. */
    private static final class Draw {
        private long state;

        Draw(long seed) {
            state = seed * 0x9E3779B97F4A7C15L + 1;
        }

        int below(int bound) {
            state = state * 6364136223846793005L + 1442695040888963407L;
            return (int) ((state >>> 33) % bound);
        }
    }

    private static final class Model {
        private final List<TreeMap<Integer, Integer>> tables = new ArrayList<>();
        private final List<Iterator<Integer>> walks = new ArrayList<>();
        private final Map.Entry<?, ?>[] pictures = new Map.Entry<?, ?>[8];
        private int refused = 0;
        private int knocks = 0;

        Model() {
            tables.add(new TreeMap<>());
            tables.add(new TreeMap<>());
            tables.add(new TreeMap<>(Collections.reverseOrder()));
            for (int i = 0; i < 3; i++) {
                walks.add(null);
            }
        }

        TreeMap<Integer, Integer> table(int table) {
            if (table < 0 || table > 2) {
                throw new IndexOutOfBoundsException();
            }
            return tables.get(table);
        }

        static Integer value(int value) {
            if (value < -1 || value > 99) {
                throw new IllegalArgumentException();
            }
            return value == -1 ? null : (Integer) value;
        }

        static int told(Integer value) {
            return value == null ? -1 : value;
        }

        void slot(int slot) {
            if (slot < 0 || slot > 7) {
                throw new IndexOutOfBoundsException();
            }
        }

        Map.Entry<?, ?> taken(int slot) {
            if (pictures[slot] == null) {
                throw new IllegalStateException();
            }
            return pictures[slot];
        }

        static void which(int which) {
            if (which < 0 || which > 5) {
                throw new IllegalArgumentException();
            }
        }

        NavigableSet<Integer> set(int table, boolean isDown) {
            return isDown ? table(table).descendingKeySet() : table(table).navigableKeySet();
        }

        Iterator<Integer> walk(int table) {
            table(table);
            if (walks.get(table) == null) {
                throw new IllegalStateException();
            }
            return walks.get(table);
        }

        static String keyText(Integer key) {
            return key == null ? "none" : key.toString();
        }

        String keyOfMap(TreeMap<Integer, Integer> map, int which, int key) {
            try {
                switch (which) {
                    case 0: return keyText(map.firstKey());
                    case 1: return keyText(map.lastKey());
                    case 2: return keyText(map.lowerKey(key));
                    case 3: return keyText(map.floorKey(key));
                    case 4: return keyText(map.ceilingKey(key));
                    default: return keyText(map.higherKey(key));
                }
            } catch (NoSuchElementException none) {
                refused++;
                return "!";
            }
        }

        String keyOfSet(NavigableSet<Integer> set, int which, int key) {
            try {
                switch (which) {
                    case 0: return keyText(set.first());
                    case 1: return keyText(set.last());
                    case 2: return keyText(set.lower(key));
                    case 3: return keyText(set.floor(key));
                    case 4: return keyText(set.ceiling(key));
                    default: return keyText(set.higher(key));
                }
            } catch (NoSuchElementException none) {
                refused++;
                return "!";
            }
        }

        Map.Entry<Integer, Integer> pairOf(TreeMap<Integer, Integer> map, int which, int key) {
            switch (which) {
                case 0: return map.firstEntry();
                case 1: return map.lastEntry();
                case 2: return map.lowerEntry(key);
                case 3: return map.floorEntry(key);
                case 4: return map.ceilingEntry(key);
                default: return map.higherEntry(key);
            }
        }

        int rewrite(int table, int place, int value) {
            TreeMap<Integer, Integer> map = table(table);
            if (place < 0 || place >= map.size()) {
                throw new IndexOutOfBoundsException();
            }
            Integer put = value(value);
            int at = 0;
            for (Map.Entry<Integer, Integer> pair : map.entrySet()) {
                if (at++ == place) {
                    return told(pair.setValue(put));
                }
            }
            throw new AssertionError();
        }

        String keys(NavigableSet<Integer> set, boolean isBack) {
            List<String> texts = new ArrayList<>();
            Iterator<Integer> going = isBack ? set.descendingIterator() : set.iterator();
            while (going.hasNext()) {
                texts.add(going.next().toString());
            }
            return String.join(" ", texts);
        }

        String next(int table) {
            Iterator<Integer> walk = walk(table);
            try {
                return walk.next().toString();
            } catch (ConcurrentModificationException lost) {
                refused++;
                return "!";
            } catch (NoSuchElementException end) {
                return "none";
            }
        }

        int dropLast(int table) {
            Iterator<Integer> walk = walk(table);
            try {
                walk.remove();
                return table(table).size();
            } catch (ConcurrentModificationException | IllegalStateException no) {
                refused++;
                return -9;
            }
        }

        int house(int what) {
            int count = 0;
            switch (what) {
                case 0:
                    for (TreeMap<Integer, Integer> map : tables) {
                        count += map.size();
                    }
                    return count;
                case 1:
                    for (Map.Entry<?, ?> picture : pictures) {
                        count += picture == null ? 0 : 1;
                    }
                    return count;
                case 2: return refused;
                case 3: return knocks;
                case 4:
                    for (Iterator<Integer> walk : walks) {
                        count += walk == null ? 0 : 1;
                    }
                    return count;
                default: throw new IllegalArgumentException();
            }
        }

        long digest() {
            long d = 7782;
            for (int what = 0; what <= 4; what++) {
                d = d * 31 + house(what);
            }
            for (TreeMap<Integer, Integer> map : tables) {
                d = d * 31 + map.size();
                d = d * 31 + map.hashCode();
                String texts = map.toString() + keyText(map.lowerKey(0)) + keyText(map.floorKey(0))
                        + keyText(map.ceilingKey(0)) + keyText(map.higherKey(0));
                for (int sign = 0; sign < texts.length(); sign++) {
                    d = d * 31 + texts.charAt(sign);
                }
            }
            for (Map.Entry<?, ?> picture : pictures) {
                d = d * 31 + (picture == null ? 0 : 1);
                if (picture != null) {
                    d = d * 31 + (Integer) picture.getKey();
                    d = d * 31 + told((Integer) picture.getValue());
                    d = d * 31 + picture.hashCode();
                }
            }
            d = d * 31 + (tables.get(0).equals(tables.get(1)) ? 1 : 0);
            d = d * 31 + (tables.get(0).equals(tables.get(2)) ? 1 : 0);
            d = d * 31 + (tables.get(1).equals(tables.get(2)) ? 1 : 0);
            return d * 31 + 1;
        }

        Object call(int method, int t, int k, int v, int o, int s, int w, boolean a, boolean b) {
            switch (method) {
                case 0: { TreeMap<Integer, Integer> m = table(t); return told(m.put(k, value(v))); }
                case 1: { TreeMap<Integer, Integer> m = table(t); return told(m.putIfAbsent(k, value(v))); }
                case 2: { TreeMap<Integer, Integer> m = table(t); return told(m.replace(k, value(v))); }
                case 3: { TreeMap<Integer, Integer> m = table(t); return m.replace(k, value(o), value(v)); }
                case 4: return told(table(t).remove(k));
                case 5: { TreeMap<Integer, Integer> m = table(t); Integer u = value(v); return m.remove((Object) k, (Object) u); }
                case 6: { int n = table(t).size(); table(t).clear(); return n; }
                case 7: table(t).putAll(table(o)); return table(t).size();
                case 8: return rewrite(t, s, v);
                case 9: return told(table(t).get(k));
                case 10: { Integer there = table(t).getOrDefault(k, o); return table(t).containsKey(k) ? told(there) : (Object) o; }
                case 11: return table(t).containsKey(k);
                case 12: { TreeMap<Integer, Integer> m = table(t); return m.containsValue(value(v)); }
                case 13: return table(t).size();
                case 14: return table(t).isEmpty();
                case 15: return table(t).toString();
                case 16: return table(t).hashCode();
                case 17: return table(t).equals(table(o));
                case 18: return table(t).comparator() != null;
                case 19: { TreeMap<Integer, Integer> m = table(t); which(w); return keyOfMap(m, w, k); }
                case 20: { TreeMap<Integer, Integer> m = table(t); slot(s); which(w); pictures[s] = pairOf(m, w, k); return pictures[s] != null; }
                case 21: { TreeMap<Integer, Integer> m = table(t); slot(s); pictures[s] = a ? m.pollLastEntry() : m.pollFirstEntry(); return pictures[s] != null; }
                case 22: slot(s); return pictures[s] != null;
                case 23: slot(s); return taken(s).getKey();
                case 24: slot(s); return told((Integer) taken(s).getValue());
                case 25: slot(s); return taken(s).toString();
                case 26: slot(s); return taken(s).hashCode();
                case 27: slot(s); value(v); taken(s); refused++; return -9;
                case 28: slot(s); slot(o); taken(s); return taken(o).equals(taken(s));
                case 29: { NavigableSet<Integer> n = set(t, a); which(w); return keyOfSet(n, w, k); }
                case 30: return keyText(b ? set(t, a).pollLast() : set(t, a).pollFirst());
                case 31: return set(t, a).remove(k);
                case 32: return addToSet(set(t, a), k);
                case 33: return set(t, a).contains(k);
                case 34: return set(t, a).size();
                case 35: return keys(set(t, a), b);
                case 36: { Iterator<Integer> walk = set(t, a).iterator(); walks.set(t, walk); return walk.hasNext(); }
                case 37: return walk(t).hasNext();
                case 38: return next(t);
                case 39: return dropLast(t);
                case 40: return house(o);
                case 41: knocks++; return knocks;
                case 42: return true;
                default: return digest();
            }
        }

        int addToSet(NavigableSet<Integer> set, int key) {
            try {
                set.add(key);
                throw new AssertionError();
            } catch (UnsupportedOperationException no) {
                refused++;
                return -9;
            }
        }
    }

    private static Object call(Pairpictures x, int method, int t, int k, int v, int o, int s, int w,
            boolean a, boolean b) {
        switch (method) {
            case 0: return x.put(t, k, v);
            case 1: return x.putNew(t, k, v);
            case 2: return x.replace(t, k, v);
            case 3: return x.swap(t, k, o, v);
            case 4: return x.drop(t, k);
            case 5: return x.dropPair(t, k, v);
            case 6: return x.empty(t);
            case 7: return x.addAll(t, o);
            case 8: return x.rewrite(t, s, v);
            case 9: return x.value(t, k);
            case 10: return x.valueOr(t, k, o);
            case 11: return x.has(t, k);
            case 12: return x.hasValue(t, v);
            case 13: return x.size(t);
            case 14: return x.isEmpty(t);
            case 15: return x.text(t);
            case 16: return x.hash(t);
            case 17: return x.isSame(t, o);
            case 18: return x.isTurned(t);
            case 19: return x.key(t, w, k);
            case 20: return x.picture(t, w, k, s);
            case 21: return x.poll(t, a, s);
            case 22: return x.isThere(s);
            case 23: return x.keyOf(s);
            case 24: return x.valueOf(s);
            case 25: return x.textOf(s);
            case 26: return x.hashOf(s);
            case 27: return x.writeTo(s, v);
            case 28: return x.areAlike(s, o);
            case 29: return x.setKey(t, a, w, k);
            case 30: return x.setPoll(t, a, b);
            case 31: return x.setDrop(t, a, k);
            case 32: return x.setAdd(t, a, k);
            case 33: return x.setHas(t, a, k);
            case 34: return x.setSize(t, a);
            case 35: return x.keys(t, a, b);
            case 36: return x.walk(t, a);
            case 37: return x.isMore(t);
            case 38: return x.next(t);
            case 39: return x.dropLast(t);
            case 40: return x.house(o);
            case 41: return x.knock();
            case 42: return x.isSound();
            default: return x.digest();
        }
    }

    private static Object told(Pairpictures x, Model model, int method, int[] n, boolean a, boolean b) {
        try {
            return x != null ? call(x, method, n[0], n[1], n[2], n[3], n[4], n[5], a, b)
                    : model.call(method, n[0], n[1], n[2], n[3], n[4], n[5], a, b);
        } catch (IndexOutOfBoundsException | IllegalArgumentException | IllegalStateException thrown) {
            return thrown.getClass();
        }
    }

    private static int drawKey(Draw draw, int spread) {
        return draw.below(8) == 0 ? EDGE_KEYS[draw.below(4)] : draw.below(spread) - spread / 2;
    }

    private static int drawIndex(Draw draw, int count) {
        return draw.below(24) == 0 ? (draw.below(2) == 0 ? -1 : count) : draw.below(count);
    }

    private static int drawOther(Draw draw, int method, int value) {
        switch (method) {
            case 3: return draw.below(2) == 0 ? value : draw.below(30) == 0 ? 100 : draw.below(4) - 1;
            case 10: return draw.below(1000) - 500;
            case 28: return drawIndex(draw, 8);
            case 40: return drawIndex(draw, 5);
            default: return drawIndex(draw, 3);
        }
    }

    /** Some runs mostly put, some mostly walk, some draw all methods alike. */
    private static int drawMethod(Draw draw, int run) {
        int style = run % 4;
        if (style == 1 && draw.below(2) == 0) {
            return draw.below(4);
        }
        if (style == 2 && draw.below(2) == 0) {
            return 36 + draw.below(4);
        }
        if (style == 2 && draw.below(3) == 0) {
            return draw.below(4);
        }
        return draw.below(METHODS);
    }

    private static void run(int run) {
        Draw draw = new Draw(run);
        Pairpictures x = new Pairpictures();
        Model model = new Model();
        int spread = run % 5 == 0 ? 1000 : run % 5 == 1 ? 6 : 16;
        int values = run % 3 == 0 ? 101 : 4;
        for (int step = 0; step < CALLS; step++) {
            int method = drawMethod(draw, run);
            int value = draw.below(40) == 0 ? (draw.below(2) == 0 ? 100 : -2) : draw.below(values) - 1;
            int[] n = {drawIndex(draw, 3), drawKey(draw, spread), value,
                drawOther(draw, method, value), drawIndex(draw, 8), drawIndex(draw, 6)};
            boolean a = draw.below(2) == 0;
            boolean b = draw.below(2) == 0;
            Object got = told(x, null, method, n, a, b);
            Object want = told(null, model, method, n, a, b);
            if (!Objects.equals(got, want)) {
                wrong++;
                System.out.println("run " + run + ", step " + step + ": method " + method
                        + java.util.Arrays.toString(n) + a + b + " answered " + got + ", due is " + want);
                return;
            }
        }
        if (x.digest() != model.digest()) {
            wrong++;
            System.out.println("run " + run + ": digest at the end");
        }
    }

    public static void main(String[] args) {
        for (int run = 0; run < RUNS && wrong < 10; run++) {
            run(run);
        }
        System.out.println(wrong == 0 ? RUNS + " drawn runs: all answers are as the TreeMap's"
                : wrong + " runs are not as the TreeMap's");
        if (wrong != 0) {
            System.exit(1);
        }
    }
}

import java.util.ArrayList;
import java.util.LinkedHashMap;
import java.util.List;
import java.util.Map;
import java.util.Set;
import java.util.TreeMap;

/** What the document says, once more and in another way: with the Java library's own maps and sets. */
public final class Model {
    private static final class Stroll {
        int set = -1;
        List<Integer> ahead = List.of();
        Integer given = null;
    }

    private final List<Map<Integer, Integer>> sets = new ArrayList<>();
    private final List<Stroll> strolls = List.of(new Stroll(), new Stroll());
    private final List<int[]> row = new ArrayList<>();
    private final List<Set<Integer>> family = new ArrayList<>();
    private int came = 0;
    private int knocks = 0;

    public Model() {
        for (int i = 0; i < 6; i++) {
            sets.add(i < 3 ? new LinkedHashMap<>() : new TreeMap<>());
        }
    }

    private Map<Integer, Integer> of(int set) {
        if (set < 0 || set > 5) {
            throw new IndexOutOfBoundsException();
        }
        return sets.get(set);
    }

    private Stroll strollOf(int walk) {
        if (walk < 0 || walk > 1) {
            throw new IndexOutOfBoundsException();
        }
        return strolls.get(walk);
    }

    private Stroll going(int walk) {
        Stroll stroll = strollOf(walk);
        state(stroll.set >= 0);
        return stroll;
    }

    private static void arg(boolean right) {
        if (!right) {
            throw new IllegalArgumentException();
        }
    }

    private static void state(boolean right) {
        if (!right) {
            throw new IllegalStateException();
        }
    }

    private static void key(int key) {
        arg(0 <= key && key <= 29);
    }

    private static void condition(int what, int n) {
        arg(0 <= what && what <= 3 && 0 <= n && n <= 29);
    }

    private static boolean so(Map.Entry<Integer, Integer> thing, int what, int n) {
        int key = thing.getKey();
        return switch (what) {
            case 0 -> key < n;
            case 1 -> key % 3 == n % 3;
            case 2 -> thing.getValue() == n;
            default -> key % 5 == n;
        };
    }

    private static int hashOf(Set<Integer> keys) {
        return keys.stream().mapToInt(k -> k % 5).sum();
    }

    private void ended(int set) {
        strolls.stream().filter(s -> s.set == set).forEach(s -> s.set = -1);
    }

    private int changed(int set, boolean changed) {
        if (changed) {
            ended(set);
        }
        return changed ? 1 : 0;
    }

    private boolean add(int set, int key, int mark) {
        boolean comes = sets.get(set).putIfAbsent(key, mark) == null;
        came += comes ? 1 : 0;
        return comes;
    }

    public int put(int set, int key, int mark) {
        of(set);
        key(key);
        arg(0 <= mark && mark <= 9);
        return changed(set, add(set, key, mark));
    }

    public int drop(int set, int key) {
        Map<Integer, Integer> m = of(set);
        key(key);
        return changed(set, m.remove(key) != null);
    }

    public int clear(int set) {
        int n = of(set).size();
        sets.get(set).clear();
        ended(set);
        return n;
    }

    public int dropIf(int set, int what, int n) {
        Map<Integer, Integer> m = of(set);
        condition(what, n);
        return changed(set, m.entrySet().removeIf(t -> so(t, what, n)));
    }

    public int pick(int set, int what, int n) {
        int before = of(set).size();
        dropIf(set, what, n);
        return before - sets.get(set).size();
    }

    public int row(int key, int mark) {
        key(key);
        arg(0 <= mark && mark <= 9);
        if (row.size() == 12) {
            return -9;
        }
        row.add(new int[] {key, mark});
        return row.size();
    }

    public int clearRow() {
        int n = row.size();
        row.clear();
        return n;
    }

    public int putRow(int set) {
        of(set);
        boolean any = false;
        for (int[] thing : row) {
            any |= add(set, thing[0], thing[1]);
        }
        return changed(set, any);
    }

    private void two(int set, int other, boolean sequence) {
        of(set);
        of(other);
        arg(set != other);
        state(!sequence || set > 2 || other < 3);
    }

    public int join(int set, int other) {
        two(set, other, true);
        boolean any = false;
        for (Map.Entry<Integer, Integer> thing : sets.get(other).entrySet()) {
            any |= add(set, thing.getKey(), thing.getValue());
        }
        return changed(set, any);
    }

    public int less(int set, int other) {
        two(set, other, false);
        return changed(set, sets.get(set).keySet().removeAll(sets.get(other).keySet()));
    }

    public int common(int set, int other) {
        two(set, other, false);
        return changed(set, sets.get(set).keySet().retainAll(sets.get(other).keySet()));
    }

    public int copy(int set, int from) {
        two(set, from, true);
        ended(set);
        sets.get(set).clear();
        sets.get(set).putAll(sets.get(from));
        return sets.get(set).size();
    }

    public int swap(int set, int other) {
        two(set, other, false);
        state(set < 3 == other < 3);
        ended(set);
        ended(other);
        java.util.Collections.swap(sets, set, other);
        return sets.get(set).size() + sets.get(other).size();
    }

    public boolean has(int set, int key) {
        Map<Integer, Integer> m = of(set);
        key(key);
        return m.containsKey(key);
    }

    public int size(int set) {
        return of(set).size();
    }

    public boolean isEmpty(int set) {
        return of(set).isEmpty();
    }

    public int mark(int set, int key) {
        Map<Integer, Integer> m = of(set);
        key(key);
        return m.getOrDefault(key, -1);
    }

    public String text(int set) {
        List<String> told = new ArrayList<>();
        of(set).forEach((k, m) -> told.add(k + "." + m));
        return String.join(" ", told);
    }

    public int hash(int set) {
        return hashOf(of(set).keySet());
    }

    public int sum(int set) {
        return of(set).entrySet().stream().mapToInt(t -> t.getKey() + t.getValue()).sum();
    }

    public int many(int set, int what, int n) {
        Map<Integer, Integer> m = of(set);
        condition(what, n);
        return (int) m.entrySet().stream().filter(t -> so(t, what, n)).count();
    }

    public int first(int set) {
        Map<Integer, Integer> m = of(set);
        state(set < 3);
        return m.isEmpty() ? -9 : m.keySet().iterator().next();
    }

    public int at(int set, int key) {
        Map<Integer, Integer> m = of(set);
        key(key);
        state(set < 3);
        return new ArrayList<>(m.keySet()).indexOf(key);
    }

    public boolean isAlike(int set, int other) {
        return of(set).keySet().equals(of(other).keySet());
    }

    public boolean holds(int set, int other) {
        return of(set).keySet().containsAll(of(other).keySet());
    }

    public boolean holdsRow(int set) {
        Map<Integer, Integer> m = of(set);
        return row.stream().allMatch(t -> m.containsKey(t[0]));
    }

    public boolean isApart(int set, int other) {
        return java.util.Collections.disjoint(of(set).keySet(), of(other).keySet());
    }

    public int often(int set, int key) {
        return has(set, key) ? 1 : 0;
    }

    public String rowText() {
        return String.join(" ", row.stream().map(t -> t[0] + "." + t[1]).toList());
    }

    public int withNothing(int set, int what) {
        of(set);
        arg(0 <= what && what <= 3);
        return -9;
    }

    public int seen(int set, int what) {
        of(set);
        arg(0 <= what && what <= 4);
        return switch (what) {
            case 0 -> size(set);
            case 1 -> hash(set);
            case 4 -> sets.get(set).keySet().stream().mapToInt(k -> k).sum();
            default -> 1;
        };
    }

    public boolean seenHas(int set, int key) {
        return has(set, key);
    }

    public int meddle(int set, int what) {
        of(set);
        arg(0 <= what && what <= 4);
        return what == 3 && isEmpty(set) ? 0 : -9;
    }

    public int walk(int walk, int set) {
        Stroll stroll = strollOf(walk);
        of(set);
        state(set < 3);
        stroll.set = set;
        stroll.ahead = new ArrayList<>(sets.get(set).keySet());
        stroll.given = null;
        return size(set);
    }

    public boolean hasNext(int walk) {
        return !going(walk).ahead.isEmpty();
    }

    public int next(int walk) {
        Stroll stroll = going(walk);
        if (stroll.ahead.isEmpty()) {
            stroll.set = -1;
            return -9;
        }
        stroll.given = stroll.ahead.remove(0);
        return stroll.given;
    }

    public int takeAway(int walk) {
        Stroll stroll = going(walk);
        if (stroll.given == null) {
            return -9;
        }
        int set = stroll.set;
        int key = stroll.given;
        sets.get(set).remove(key);
        ended(set);
        stroll.set = set;
        stroll.given = null;
        return key;
    }

    public int rest(int walk) {
        Stroll stroll = going(walk);
        stroll.set = -1;
        return stroll.ahead.stream().mapToInt(k -> k).sum();
    }

    public int ofWalk(int walk) {
        return strollOf(walk).set;
    }

    public int bring(int set) {
        if (isIn(set)) {
            return 0;
        }
        return family.size() == 8 ? -9 : family.add(Set.copyOf(sets.get(set).keySet())) ? 1 : 0;
    }

    public int remove(int set) {
        return family.remove(of(set).keySet()) ? 1 : 0;
    }

    public boolean isIn(int set) {
        return family.contains(of(set).keySet());
    }

    public int family(int what) {
        arg(0 <= what && what <= 2);
        return switch (what) {
            case 0 -> family.size();
            case 1 -> family.stream().mapToInt(Model::hashOf).sum();
            default -> family.stream().mapToInt(Set::size).sum();
        };
    }

    public int house(int what) {
        arg(0 <= what && what <= 4);
        return switch (what) {
            case 0 -> sets.stream().mapToInt(Map::size).sum();
            case 1 -> row.size();
            case 2 -> (int) strolls.stream().filter(s -> s.set >= 0).count();
            case 3 -> came;
            default -> knocks;
        };
    }

    public int knock() {
        return ++knocks;
    }

    public boolean isSound() {
        return true;
    }

    public long digest() {
        List<Long> all = new ArrayList<>();
        for (int what = 0; what < 5; what++) {
            all.add((long) house(what));
        }
        for (int set = 0; set < 6; set++) {
            all.addAll(List.of((long) size(set), (long) hash(set), (long) sum(set)));
            text(set).chars().forEach(c -> all.add((long) c));
        }
        for (int pair = 0; pair < 36; pair++) {
            all.add(isAlike(pair / 6, pair % 6) ? 1L : 0L);
            all.add(holds(pair / 6, pair % 6) ? 1L : 0L);
        }
        all.add((long) ofWalk(0));
        all.add((long) ofWalk(1));
        for (int what = 0; what < 3; what++) {
            all.add((long) family(what));
        }
        for (int set = 0; set < 6; set++) {
            all.add(isIn(set) ? 1L : 0L);
        }
        rowText().chars().forEach(c -> all.add((long) c));
        all.add(1L);
        return all.stream().reduce(7781L, (d, v) -> d * 31 + v);
    }
}

/** Promises 10 to 14: join, less, common, copy, swap. */
public final class TwoSetsTests {
    private interface Pair {
        int answer(Setsalike x, int set, int other);
    }

    public static void main(String[] args) {
        join();
        joinPlain();
        less();
        common();
        copy();
        copyPlain();
        swap();
        wrongSets("10: join", (x, a, b) -> x.join(a, b), true);
        wrongSets("11: less", (x, a, b) -> x.less(a, b), false);
        wrongSets("12: common", (x, a, b) -> x.common(a, b), false);
        wrongSets("13: copy", (x, a, b) -> x.copy(a, b), true);
        wrongSets("14: swap", (x, a, b) -> x.swap(a, b), true);
        Checks.finish();
    }

    /** A SET 0, 1 and a PLAIN one 3, with a walk over each LINKED one. */
    private static Setsalike some() {
        Setsalike x = Checks.with(0, 8, 3, 5);
        x.put(1, 9, 1);
        x.put(1, 3, 7);
        x.put(1, 2, 0);
        x.put(3, 29, 2);
        x.put(3, 5, 1);
        x.walk(0, 0);
        x.walk(1, 1);
        return x;
    }

    private static void join() {
        Setsalike x = some();
        Checks.due("10: join", 1, x.join(0, 1));
        Checks.due("10: text", "8.8 3.3 5.5 9.1 2.0", x.text(0));
        Checks.due("10: the other one stays", "9.1 3.7 2.0", x.text(1));
        Checks.due("10: comings", 10, x.house(3));
        Checks.due("10: the walk ends", -1, x.ofWalk(0));
        Checks.due("10: the other's goes on", 1, x.ofWalk(1));
        x.walk(0, 0);
        Checks.idle(x, "10: join again", 0, () -> x.join(0, 1));
        Checks.idle(x, "10: join of an empty one", 0, () -> x.join(0, 2));
        Checks.due("10: into an empty one", 1, x.join(2, 1));
        Checks.due("10: its text", "9.1 3.7 2.0", x.text(2));
    }

    private static void joinPlain() {
        Setsalike x = some();
        Checks.due("10: PLAIN and LINKED", 1, x.join(3, 0));
        Checks.due("10: text", "3.3 5.1 8.8 29.2", x.text(3));
        Checks.due("10: PLAIN and PLAIN", 1, x.join(4, 3));
        Checks.due("10: text", "3.3 5.1 8.8 29.2", x.text(4));
        Checks.due("10: comings", 14, x.house(3));
        Checks.due("10: the walks go on", 2, x.house(2));
    }

    private static void less() {
        Setsalike x = some();
        Checks.due("11: less", 1, x.less(0, 1));
        Checks.due("11: text", "8.8 5.5", x.text(0));
        Checks.due("11: the other one stays", "9.1 3.7 2.0", x.text(1));
        Checks.due("11: the walk ends", -1, x.ofWalk(0));
        Checks.due("11: the other's goes on", 1, x.ofWalk(1));
        x.walk(0, 0);
        Checks.idle(x, "11: less again", 0, () -> x.less(0, 1));
        Checks.idle(x, "11: less an empty one", 0, () -> x.less(0, 2));
        Checks.due("11: LINKED less PLAIN", 1, x.less(0, 3));
        Checks.due("11: text", "8.8", x.text(0));
        x.put(3, 8, 0);
        Checks.due("11: PLAIN less LINKED", 1, x.less(3, 0));
        Checks.due("11: text", "5.1 29.2", x.text(3));
        Checks.due("11: less all", 1, x.less(3, joined(x, 4, 3)));
        Checks.due("11: text", "", x.text(3));
        Checks.idle(x, "11: an empty one less", 0, () -> x.less(3, 4));
    }

    private static int joined(Setsalike x, int set, int other) {
        x.join(set, other);
        return set;
    }

    private static void common() {
        Setsalike x = some();
        Checks.due("12: common", 1, x.common(0, 1));
        Checks.due("12: text", "3.3", x.text(0));
        Checks.due("12: the other one stays", "9.1 3.7 2.0", x.text(1));
        Checks.due("12: the walk ends", -1, x.ofWalk(0));
        Checks.due("12: the other's goes on", 1, x.ofWalk(1));
        x.walk(0, 0);
        Checks.idle(x, "12: common again", 0, () -> x.common(0, 1));
        Checks.due("12: with an empty one", 1, x.common(0, 2));
        Checks.due("12: text", "", x.text(0));
        Checks.idle(x, "12: of two empty ones", 0, () -> x.common(0, 2));
        x.put(1, 29, 9);
        Checks.due("12: LINKED and PLAIN", 1, x.common(1, 3));
        Checks.due("12: text", "29.9", x.text(1));
        Checks.due("12: PLAIN and LINKED", 1, x.common(3, 1));
        Checks.due("12: text", "29.2", x.text(3));
        Checks.idle(x, "12: of all", 0, () -> x.common(3, 1));
    }

    private static void copy() {
        Setsalike x = some();
        Checks.due("13: copy", 3, x.copy(0, 1));
        Checks.due("13: text", "9.1 3.7 2.0", x.text(0));
        Checks.due("13: the other one stays", "9.1 3.7 2.0", x.text(1));
        Checks.due("13: comings are not counted", 8, x.house(3));
        Checks.due("13: the walk ends", -1, x.ofWalk(0));
        Checks.due("13: the other's goes on", 1, x.ofWalk(1));
        x.walk(0, 0);
        Checks.due("13: copy again", 3, x.copy(0, 1));
        Checks.due("13: the walk ends all the same", -1, x.ofWalk(0));
        x.put(1, 4, 4);
        Checks.due("13: later changes do not reach it", "9.1 3.7 2.0", x.text(0));
        Checks.due("13: copy of an empty one", 0, x.copy(0, 2));
        Checks.due("13: text", "", x.text(0));
        x.walk(0, 0);
        Checks.due("13: empty and empty", 0, x.copy(0, 2));
        Checks.due("13: its walk ends all the same", -1, x.ofWalk(0));
    }

    private static void copyPlain() {
        Setsalike x = some();
        Checks.due("13: PLAIN and LINKED", 3, x.copy(3, 0));
        Checks.due("13: text", "3.3 5.5 8.8", x.text(3));
        Checks.due("13: PLAIN and PLAIN", 3, x.copy(5, 3));
        Checks.due("13: text", "3.3 5.5 8.8", x.text(5));
        Checks.due("13: the walks go on", 2, x.house(2));
    }

    private static void swap() {
        Setsalike x = some();
        x.put(0, 20, 0);
        x.walk(0, 0);
        Checks.due("14: swap", 7, x.swap(0, 1));
        Checks.due("14: text", "9.1 3.7 2.0", x.text(0));
        Checks.due("14: text", "8.8 3.3 5.5 20.0", x.text(1));
        Checks.due("14: both walks end", 0, x.house(2));
        Checks.due("14: comings are not counted", 9, x.house(3));
        x.put(1, 1, 1);
        Checks.due("14: they stay apart", "9.1 3.7 2.0", x.text(0));
        Checks.due("14: PLAIN", 2, x.swap(5, 3));
        Checks.due("14: text", "5.1 29.2", x.text(5));
        Checks.due("14: text", "", x.text(3));
        Setsalike y = new Setsalike();
        y.walk(0, 1);
        y.walk(1, 2);
        Checks.due("14: of empty ones", 0, y.swap(0, 1));
        Checks.due("14: the walk ends all the same", -1, y.ofWalk(0));
        Checks.due("14: the other goes on", 2, y.ofWalk(1));
        y.swap(1, 2);
        Checks.due("14: the second SET's walk ends", -1, y.ofWalk(1));
    }

    private static void wrongSets(String name, Pair pair, boolean kindsCount) {
        int[][] none = {{-1, 0}, {6, 0}, {0, -1}, {0, 6}, {6, 6}, {-1, -1}, {3, 6}, {Integer.MIN_VALUE, 1}};
        for (int[] n : none) {
            Twins.idle(name, TwoSetsTests::some, Twins.INDEX, x -> pair.answer(x, n[0], n[1]));
        }
        for (int set = 0; set < 6; set++) {
            final int s = set;
            Twins.idle(name, TwoSetsTests::some, Twins.ARGUMENT, x -> pair.answer(x, s, s));
        }
        for (int i = 0; kindsCount && i < 9; i++) {
            final int linked = i % 3;
            final int plain = 3 + i / 3;
            Twins.idle(name, TwoSetsTests::some, Twins.STATE, x -> pair.answer(x, linked, plain));
        }
        if (name.endsWith("swap")) {
            Twins.idle(name, TwoSetsTests::some, Twins.STATE, x -> pair.answer(x, 3, 0));
            Twins.idle(name, TwoSetsTests::some, Twins.STATE, x -> pair.answer(x, 5, 2));
        }
    }
}

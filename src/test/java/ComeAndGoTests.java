/** Promises 1 to 9: a new object, things come and go. */
public final class ComeAndGoTests {
    public static void main(String[] args) {
        newObject();
        put();
        putWrong();
        drop();
        clear();
        dropIf();
        pick();
        conditions();
        wrongConditions();
        row();
        clearRow();
        putRow();
        Checks.finish();
    }

    private static void newObject() {
        Setsalike x = new Setsalike();
        Checks.due("1: new", "|false||false||false||false||false||false|-1|-1|0|0|0|0|0|0|0|0|", Checks.state(x));
        for (int set = 0; set < 6; set++) {
            Checks.due("1: size", 0, x.size(set));
            Checks.due("1: isEmpty", true, x.isEmpty(set));
        }
    }

    private static void put() {
        for (int set = 0; set < 6; set++) {
            Setsalike x = new Setsalike();
            Checks.due("2: put 29", 1, x.put(set, 29, 9));
            Checks.due("2: put 0", 1, x.put(set, 0, 0));
            Checks.due("2: put 7", 1, x.put(set, 7, 3));
            Checks.due("2: put 0 again", 0, x.put(set, 0, 5));
            Checks.due("2: text", set < 3 ? "29.9 0.0 7.3" : "0.0 7.3 29.9", x.text(set));
            Checks.due("2: house(3)", 3, x.house(3));
            x.drop(set, 29);
            Checks.due("2: put 29 anew", 1, x.put(set, 29, 1));
            Checks.due("2: text then", set < 3 ? "0.0 7.3 29.1" : "0.0 7.3 29.1", x.text(set));
            for (int key = 0; key < 30; key++) {
                x.put(set, key, 4);
            }
            Checks.due("2: all", 30, x.size(set));
            Checks.due("2: put into a full one", 0, x.put(set, 12, 4));
        }
        Setsalike y = Checks.with(1, 4, 5);
        y.walk(0, 1);
        Checks.due("2: put 4", 0, y.put(1, 4, 9));
        Checks.due("2: the walk goes on", 1, y.ofWalk(0));
        y.put(2, 4, 4);
        Checks.due("2: the walk goes on by another SET", 1, y.ofWalk(0));
        y.put(1, 6, 6);
        Checks.due("2: the walk ends", -1, y.ofWalk(0));
    }

    private static void putWrong() {
        Setsalike x = Checks.with(0, 1);
        Checks.idle(x, "2: put(-1, 0, 0)", "throws IndexOutOfBoundsException", () -> x.put(-1, 0, 0));
        Checks.idle(x, "2: put(6, 30, 10)", "throws IndexOutOfBoundsException", () -> x.put(6, 30, 10));
        Checks.idle(x, "2: put(0, -1, 0)", "throws IllegalArgumentException", () -> x.put(0, -1, 0));
        Checks.idle(x, "2: put(0, 30, 0)", "throws IllegalArgumentException", () -> x.put(0, 30, 0));
        Checks.idle(x, "2: put(0, 1, -1)", "throws IllegalArgumentException", () -> x.put(0, 1, -1));
        Checks.idle(x, "2: put(0, 2, 10)", "throws IllegalArgumentException", () -> x.put(0, 2, 10));
        Checks.idle(x, "2: put(MIN, MIN, MIN)", "throws IndexOutOfBoundsException",
                () -> x.put(Integer.MIN_VALUE, Integer.MIN_VALUE, Integer.MIN_VALUE));
    }

    private static void drop() {
        for (int set = 0; set < 6; set += 3) {
            final int s = set;
            Setsalike x = Checks.with(set, 9, 0, 29, 14);
            Checks.due("3: drop 0", 1, x.drop(set, 0));
            Checks.due("3: text", set < 3 ? "9.9 29.9 14.4" : "9.9 14.4 29.9", x.text(set));
            Checks.due("3: drop 29", 1, x.drop(set, 29));
            Checks.due("3: has", false, x.has(set, 29));
            Checks.due("3: mark", -1, x.mark(set, 29));
            Checks.idle(x, "3: drop 29 again", 0, () -> x.drop(s, 29));
            Checks.idle(x, "3: drop of no KEY", "throws IllegalArgumentException", () -> x.drop(s, 30));
            Checks.idle(x, "3: drop of no KEY", "throws IllegalArgumentException", () -> x.drop(s, -1));
            Checks.idle(x, "3: drop of no SET", "throws IndexOutOfBoundsException", () -> x.drop(6, 30));
            Checks.idle(x, "3: drop of no SET", "throws IndexOutOfBoundsException", () -> x.drop(-1, 0));
        }
        Setsalike y = Checks.with(2, 4, 5);
        y.walk(1, 2);
        y.drop(2, 6);
        Checks.due("3: the walk goes on", 2, y.ofWalk(1));
        y.drop(2, 5);
        Checks.due("3: the walk ends", -1, y.ofWalk(1));
    }

    private static void clear() {
        Setsalike x = Checks.with(0, 5, 4, 3);
        Checks.fill(x, 4, 7, 8);
        Checks.due("4: clear 0", 3, x.clear(0));
        Checks.due("4: text", "", x.text(0));
        Checks.due("4: has", false, x.has(0, 5));
        Checks.due("4: others stay", "7.7 8.8", x.text(4));
        Checks.due("4: clear 4", 2, x.clear(4));
        for (int key = 0; key < 30; key++) {
            x.put(key % 2 * 4, key, 1);
        }
        Checks.due("4: clear of half of all KEYS", 15, x.clear(0));
        Checks.due("4: clear of the other half", 15, x.clear(4));
        Checks.due("4: nothing is left", "", x.text(0) + x.text(4));
        Checks.due("4: clear 4 again", 0, x.clear(4));
        x.walk(0, 0);
        x.walk(1, 1);
        Checks.due("4: clear of an empty one", 0, x.clear(0));
        Checks.due("4: its walk ends all the same", -1, x.ofWalk(0));
        Checks.due("4: the other goes on", 1, x.ofWalk(1));
        Checks.idle(x, "4: clear(-1)", "throws IndexOutOfBoundsException", () -> x.clear(-1));
        Checks.idle(x, "4: clear(6)", "throws IndexOutOfBoundsException", () -> x.clear(6));
    }

    private static void dropIf() {
        Setsalike x = Checks.with(1, 12, 3, 25, 8, 0);
        x.walk(0, 1);
        Checks.idle(x, "5: dropIf KEY < 0", 0, () -> x.dropIf(1, 0, 0));
        Checks.due("5: dropIf KEY < 9", 1, x.dropIf(1, 0, 9));
        Checks.due("5: text", "12.2 25.5", x.text(1));
        Checks.due("5: the walk ends", -1, x.ofWalk(0));
        Checks.due("5: all go", 1, x.dropIf(1, 0, 29));
        Checks.due("5: none is left", "", x.text(1));
        Checks.idle(x, "5: dropIf of none", 0, () -> x.dropIf(1, 0, 29));
    }

    private static void pick() {
        Setsalike x = Checks.with(1, 12, 3, 25, 8, 0);
        x.walk(0, 1);
        Checks.idle(x, "6: pick KEY < 0", 0, () -> x.pick(1, 0, 0));
        Checks.due("6: pick KEY < 9", 3, x.pick(1, 0, 9));
        Checks.due("6: text", "12.2 25.5", x.text(1));
        Checks.due("6: the walk ends", -1, x.ofWalk(0));
        Checks.fill(x, 5, 1, 2, 3, 4, 5, 6);
        Checks.due("6: pick of neighbours", 5, x.pick(5, 0, 6));
        Checks.due("6: text of a PLAIN one", "6.6", x.text(5));
    }

    private static void conditions() {
        // [what, n], and the KEYS for which it is so among 0 to 29, each with its last digit as MARK.
        int[][] cases = {{0, 0}, {0, 1}, {0, 29}, {1, 0}, {1, 1}, {1, 29}, {2, 0}, {2, 9}, {2, 10}, {3, 0}, {3, 4},
            {3, 5}};
        int[] amounts = {0, 1, 29, 10, 10, 10, 3, 3, 0, 6, 6, 0};
        int[] sums = {0, 0, 406, 135, 145, 155, 30, 57, 0, 75, 99, 0};
        for (int i = 0; i < cases.length; i++) {
            String name = "5, 6, 22: condition " + cases[i][0] + ", " + cases[i][1];
            for (int set = 2; set < 4; set++) {
                Setsalike x = all(set);
                Checks.due(name, amounts[i], x.many(set, cases[i][0], cases[i][1]));
                Checks.due(name, amounts[i] > 0 ? 1 : 0, x.dropIf(set, cases[i][0], cases[i][1]));
                Checks.due(name, 435 - sums[i], x.seen(set, 4));
                Setsalike y = all(set);
                Checks.due(name, amounts[i], y.pick(set, cases[i][0], cases[i][1]));
                Checks.due(name, 435 - sums[i], y.seen(set, 4));
                Checks.due(name, 0, y.many(set, cases[i][0], cases[i][1]));
            }
        }
    }

    private static Setsalike all(int set) {
        Setsalike x = new Setsalike();
        for (int key = 29; key >= 0; key--) {
            x.put(set, key, key % 10);
        }
        return x;
    }

    private static void wrongConditions() {
        int[][] wrong = {{-1, 0}, {4, 0}, {0, -1}, {0, 30}, {2, 30}, {3, Integer.MIN_VALUE}};
        for (int[] w : wrong) {
            Twins.idle("5: dropIf", Twins::busy, Twins.ARGUMENT, x -> x.dropIf(0, w[0], w[1]));
            Twins.idle("6: pick", Twins::busy, Twins.ARGUMENT, x -> x.pick(0, w[0], w[1]));
            Twins.idle("22: many", Twins::busy, Twins.ARGUMENT, x -> x.many(0, w[0], w[1]));
        }
        for (int set = -1; set < 7; set += 7) {
            final int s = set;
            Setsalike x = Checks.with(0, 1, 2);
            Checks.noSuch("5: dropIf", () -> x.dropIf(s, 4, 30));
            Checks.noSuch("6: pick", () -> x.pick(s, 4, 30));
            Checks.noSuch("22: many", () -> x.many(s, 4, 30));
        }
    }

    private static void row() {
        Setsalike x = new Setsalike();
        for (int i = 1; i <= 12; i++) {
            Checks.due("7: row", i, x.row(i % 2 == 0 ? 0 : 29, i % 10));
        }
        String full = "29.1 0.2 29.3 0.4 29.5 0.6 29.7 0.8 29.9 0.0 29.1 0.2";
        Checks.due("7, 30: rowText", full, x.rowText());
        Checks.idle(x, "7: row when full", -9, () -> x.row(1, 1));
        Checks.idle(x, "7: row(30, 0) when full", "throws IllegalArgumentException", () -> x.row(30, 0));
        Checks.idle(x, "7: row(-1, 0)", "throws IllegalArgumentException", () -> x.row(-1, 0));
        Checks.idle(x, "7: row(0, 10)", "throws IllegalArgumentException", () -> x.row(0, 10));
        Checks.idle(x, "7: row(0, -1)", "throws IllegalArgumentException", () -> x.row(0, -1));
    }

    private static void clearRow() {
        Setsalike x = Checks.with(0, 1);
        Checks.due("8: clearRow of none", 0, x.clearRow());
        x.row(3, 4);
        x.row(3, 4);
        Checks.due("8: clearRow", 2, x.clearRow());
        Checks.due("8: rowText", "", x.rowText());
        Checks.due("8: again", 0, x.clearRow());
        Checks.due("8: row begins anew", 1, x.row(5, 5));
        Checks.due("8: rowText then", "5.5", x.rowText());
        Checks.due("8: the SETS stay", "1.1", x.text(0));
    }

    private static void putRow() {
        Setsalike x = Checks.with(0, 6);
        x.walk(0, 0);
        Checks.idle(x, "9: putRow of none", 0, () -> x.putRow(0));
        x.row(9, 1);
        x.row(6, 2);
        x.row(9, 3);
        x.row(2, 4);
        Checks.due("9: putRow", 1, x.putRow(0));
        Checks.due("9: text", "6.6 9.1 2.4", x.text(0));
        Checks.due("9: the walk ends", -1, x.ofWalk(0));
        Checks.due("9: two came", 3, x.house(3));
        x.walk(0, 0);
        Checks.idle(x, "9: putRow again", 0, () -> x.putRow(0));
        Checks.due("9: the walk goes on", 0, x.ofWalk(0));
        Checks.due("9: into a PLAIN one", 1, x.putRow(5));
        Checks.due("9: its text", "2.4 6.2 9.1", x.text(5));
        Checks.due("9: five came and one before", 6, x.house(3));
        Checks.due("9: the ROW stays", "9.1 6.2 9.3 2.4", x.rowText());
        Checks.idle(x, "9: putRow(-1)", "throws IndexOutOfBoundsException", () -> x.putRow(-1));
        Checks.idle(x, "9: putRow(6)", "throws IndexOutOfBoundsException", () -> x.putRow(6));
    }
}

/** The ROW with none, with one, with 11 and with 12 THINGS, and with several that have the same KEY. */
public final class RowEdgeTests {
    public static void main(String[] args) {
        for (int amount : new int[] {0, 1, 11, 12}) {
            asked(amount);
            row(amount);
            clearRow(amount);
            for (int set = 0; set < 6; set++) {
                putRow(amount, set);
                putRowIntoSome(amount, set);
                holdsRow(amount, set);
            }
        }
        sameKey();
        Checks.finish();
    }

    /** The KEYS 29, 28 and so on, each with its last digit as MARK. */
    private static Setsalike rowOf(int amount) {
        Setsalike x = new Setsalike();
        for (int i = 0; i < amount; i++) {
            x.row(29 - i, (29 - i) % 10);
        }
        return x;
    }

    private static String falling(int amount) {
        StringBuilder page = new StringBuilder();
        for (int i = 0; i < amount; i++) {
            page.append(i == 0 ? "" : " ").append(29 - i).append('.').append((29 - i) % 10);
        }
        return page.toString();
    }

    private static String rising(int amount) {
        StringBuilder page = new StringBuilder();
        for (int key = 30 - amount; key < 30; key++) {
            page.append(page.length() == 0 ? "" : " ").append(key).append('.').append(key % 10);
        }
        return page.toString();
    }

    private static void asked(int amount) {
        Setsalike x = rowOf(amount);
        Checks.due("30: rowText of " + amount, falling(amount), x.rowText());
        Checks.due("45: house of a ROW of " + amount, amount, x.house(1));
        Checks.due("45: none of them came to a SET", 0, x.house(3));
        Checks.due("48: digest with a ROW of " + amount, Checks.digestOf(x), x.digest());
    }

    private static void row(int amount) {
        if (amount == 12) {
            Twins.idle("7: row with 12", () -> rowOf(12), -9, x -> x.row(0, 0));
            Twins.idle("7: row with 12, of one that is in it", () -> rowOf(12), -9, x -> x.row(29, 9));
            return;
        }
        Setsalike x = rowOf(amount);
        Checks.due("7: row with " + amount, amount + 1, x.row(0, 5));
        Checks.due("7: it is the last one", (falling(amount) + " 0.5").trim(), x.rowText());
        Checks.due("7: house then", amount + 1, x.house(1));
    }

    private static void clearRow(int amount) {
        Setsalike x = rowOf(amount);
        Checks.due("8: clearRow with " + amount, amount, x.clearRow());
        Checks.due("8: it is empty then", "", x.rowText());
        Checks.due("8: house then", 0, x.house(1));
        Checks.due("8: clearRow again", 0, x.clearRow());
        for (int i = 1; i <= 12; i++) {
            Checks.due("8: there is room for 12 again", i, x.row(i, 0));
        }
        Checks.due("8: and for no more", -9, x.row(0, 0));
    }

    private static void putRow(int amount, int set) {
        if (amount == 0) {
            Twins.idle("9: putRow with none", Setsalike::new, 0, x -> x.putRow(set));
            return;
        }
        Setsalike x = rowOf(amount);
        Checks.due("9: putRow with " + amount, 1, x.putRow(set));
        Checks.due("9: what it has then", set < 3 ? falling(amount) : rising(amount), x.text(set));
        Checks.due("9: the ROW stays", falling(amount), x.rowText());
        Checks.due("9: so many came", amount, x.house(3));
        Twins.idle("9: putRow again", () -> putAlready(amount, set), 0, y -> y.putRow(set));
    }

    private static Setsalike putAlready(int amount, int set) {
        Setsalike x = rowOf(amount);
        x.putRow(set);
        return x;
    }

    /** All that the SET has not are those at the two ends of the ROW. */
    private static void putRowIntoSome(int amount, int set) {
        if (amount < 11) {
            return;
        }
        Setsalike x = rowOf(amount);
        for (int i = 1; i < amount - 1; i++) {
            x.put(set, 29 - i, 0);
        }
        Checks.due("9: putRow, the first one and the last one come", 1, x.putRow(set));
        Checks.due("9: the first one", 9, x.mark(set, 29));
        Checks.due("9: the last one", (30 - amount) % 10, x.mark(set, 30 - amount));
        Checks.due("9: those that were there keep their MARKS", 0, x.mark(set, 28));
        Checks.due("9: only two came", amount, x.house(3));
        x.drop(set, 30 - amount);
        Checks.due("9: putRow, only the last one comes", 1, x.putRow(set));
        x.drop(set, 29);
        Checks.due("9: putRow, only the first one comes", 1, x.putRow(set));
    }

    private static void holdsRow(int amount, int set) {
        Setsalike x = rowOf(amount);
        Checks.due("27: holdsRow, an empty SET", amount == 0, x.holdsRow(set));
        x.put(set, 0, 0);
        Checks.due("27: holdsRow, another KEY", amount == 0, x.holdsRow(set));
        x.putRow(set);
        Checks.due("27: holdsRow with " + amount, true, x.holdsRow(set));
        for (int i = 0; i < amount; i++) {
            x.drop(set, 29 - i);
            Checks.due("27: holdsRow without " + (29 - i), false, x.holdsRow(set));
            x.put(set, 29 - i, 0);
            Checks.due("27: holdsRow whatever the MARK", true, x.holdsRow(set));
        }
    }

    private static void sameKey() {
        Setsalike x = new Setsalike();
        for (int i = 0; i < 12; i++) {
            Checks.due("7: row of the same KEY", i + 1, x.row(7, 9 - i % 10));
        }
        Checks.due("30: all of them", "7.9 7.8 7.7 7.6 7.5 7.4 7.3 7.2 7.1 7.0 7.9 7.8", x.rowText());
        Checks.due("9: putRow of the same KEY", 1, x.putRow(0));
        Checks.due("9: the first one came", "7.9", x.text(0));
        Checks.due("9: only one came", 1, x.house(3));
        Checks.due("27: holdsRow of the same KEY", true, x.holdsRow(0));
    }
}

/** The FAMILY with none, with one, with 7 and with 8 sets, with one that is ALIKE and without. */
public final class FamilyEdgeTests {
    public static void main(String[] args) {
        for (int amount : new int[] {0, 1, 7, 8}) {
            asked(amount);
            for (int set = 0; set < 6; set++) {
                without(amount, set);
                for (int i = 0; i < amount; i++) {
                    alike(amount, set, i);
                }
            }
            removeAll(amount);
        }
        emptySet();
        laterChanges();
        sameHashAndSize();
        Checks.finish();
    }

    /** The i-th set of the FAMILY has the KEYS 0 to i; SET 0 or, where that is asked of, SET 5 brought them. */
    private static Setsalike familyOf(int amount, int set) {
        Setsalike x = new Setsalike();
        int by = set == 0 ? 5 : 0;
        for (int key = 0; key < amount; key++) {
            x.put(by, key, 1);
            x.bring(by);
        }
        x.clear(by);
        return x;
    }

    private static Setsalike withAlike(int amount, int set, int i) {
        Setsalike x = familyOf(amount, set);
        for (int key = i; key >= 0; key--) {
            x.put(set, key, 9);
        }
        return x;
    }

    private static Setsalike withStranger(int amount, int set) {
        Setsalike x = familyOf(amount, set);
        x.put(set, 29, 9);
        return x;
    }

    /** The HASHES of the sets with the KEYS 0, 0 to 1, 0 to 2 and so on. */
    private static int hashes(int amount) {
        int total = 0;
        for (int i = 0; i < amount; i++) {
            for (int key = 0; key <= i; key++) {
                total += key % 5;
            }
        }
        return total;
    }

    private static void asked(int amount) {
        Setsalike x = familyOf(amount, 1);
        Checks.due("44: family of " + amount, amount, x.family(0));
        Checks.due("44: HASHES of " + amount, hashes(amount), x.family(1));
        Checks.due("44: KEYS of " + amount, amount * (amount + 1) / 2, x.family(2));
        Checks.due("48: digest with a FAMILY of " + amount, Checks.digestOf(x), x.digest());
    }

    private static void without(int amount, int set) {
        Twins.Recipe recipe = () -> withStranger(amount, set);
        String of = " with " + amount + ", none is ALIKE";
        Twins.idle("43: isIn" + of, recipe, false, x -> x.isIn(set));
        Twins.idle("42: remove" + of, recipe, 0, x -> x.remove(set));
        if (amount == 8) {
            Twins.idle("41: bring" + of, recipe, -9, x -> x.bring(set));
            return;
        }
        Setsalike x = recipe.make();
        Checks.due("41: bring" + of, 1, x.bring(set));
        Checks.due("44: one more then", amount + 1, x.family(0));
        Checks.due("44: its HASH too", hashes(amount) + 4, x.family(1));
        Checks.due("43: it is in it then", true, x.isIn(set));
    }

    private static void alike(int amount, int set, int i) {
        Twins.Recipe recipe = () -> withAlike(amount, set, i);
        String of = " with " + amount + ", that of " + i + " is ALIKE";
        Twins.idle("43: isIn" + of, recipe, true, x -> x.isIn(set));
        Twins.idle("41: bring" + of, recipe, 0, x -> x.bring(set));
        Setsalike x = recipe.make();
        Checks.due("42: remove" + of, 1, x.remove(set));
        Checks.due("43: it went", false, x.isIn(set));
        Checks.due("44: one less then", amount - 1, x.family(0));
        Checks.due("44: its KEYS went", amount * (amount + 1) / 2 - i - 1, x.family(2));
        Checks.due("42: remove again", 0, x.remove(set));
        othersStay(x, set, amount, i);
        Checks.due("41: there is room again", 1, bringKeysTo(x, set, i));
        Checks.due("44: as many as before", amount, x.family(0));
    }

    private static void othersStay(Setsalike x, int set, int amount, int gone) {
        x.clear(set);
        for (int key = 0; key < amount; key++) {
            x.put(set, key, 0);
            Checks.due("42: only that one went", key != gone, x.isIn(set));
        }
    }

    private static int bringKeysTo(Setsalike x, int set, int last) {
        x.clear(set);
        for (int key = 0; key <= last; key++) {
            x.put(set, key, 0);
        }
        return x.bring(set);
    }

    private static void removeAll(int amount) {
        Setsalike x = familyOf(amount, 4);
        for (int key = 0; key < amount; key++) {
            x.put(4, key, 0);
            Checks.due("42: remove one by one", 1, x.remove(4));
        }
        Checks.due("44: none is left", 0, x.family(0) + x.family(1) + x.family(2));
    }

    /** A set without KEYS is one like the others, in an empty FAMILY and in a full one. */
    private static void emptySet() {
        Setsalike x = new Setsalike();
        Checks.due("43: isIn of none, in none", false, x.isIn(0));
        Checks.due("41: bring of none", 1, x.bring(0));
        Checks.due("44: it counts", 1, x.family(0));
        Checks.due("43: isIn of none", true, x.isIn(5));
        Checks.due("42: remove of none", 1, x.remove(3));
        Checks.due("43: it went", false, x.isIn(0));
        Twins.idle("41: bring of none with 8", () -> familyOf(8, 1), -9, y -> y.bring(1));
        Twins.idle("42: remove of none with 8", () -> familyOf(8, 1), 0, y -> y.remove(1));
        Setsalike z = familyOf(7, 1);
        Checks.due("41: bring of none with 7", 1, z.bring(1));
        Checks.due("41: again, with 8", 0, z.bring(2));
    }

    /** A set of the FAMILY does not change when the SET does that it came from. */
    private static void laterChanges() {
        Setsalike x = Checks.with(0, 4, 9);
        x.walk(0, 0);
        x.bring(0);
        Checks.due("41: bring ends no WALK", 0, x.ofWalk(0));
        x.next(0);
        x.takeAway(0);
        Checks.due("41: takeAway does not reach it", 2, x.family(2));
        x.clear(0);
        Checks.due("41: clear does not reach it", 8, x.family(1));
        x.swap(0, 1);
        x.put(1, 9, 0);
        x.put(1, 4, 0);
        Checks.due("41: an ALIKE one is found still", true, x.isIn(1));
        Checks.due("42: remove does not reach the SET", 1, x.remove(1));
        Checks.due("42: which stays", "9.0 4.0", x.text(1));
    }

    private static void sameHashAndSize() {
        Setsalike x = Checks.with(0, 4, 9);
        x.bring(0);
        Checks.fill(x, 1, 4, 14);
        Checks.due("43: the same HASH and size is not ALIKE", false, x.isIn(1));
        Checks.due("42: nor does it go", 0, x.remove(1));
        Checks.due("41: so it comes", 1, x.bring(1));
        Checks.due("44: one KEY in two of them counts twice", 4, x.family(2));
        Checks.due("44: HASHES", 16, x.family(1));
    }
}

/** Promises 41 to 48: the family, and all. */
public final class FamilyAndHouseTests {
    public static void main(String[] args) {
        bring();
        remove();
        isIn();
        family();
        house();
        knock();
        isSound();
        digestOfNew();
        digestOfSome();
        digestTellsApart();
        wrong();
        Checks.finish();
    }

    private static void bring() {
        Setsalike x = Checks.with(0, 5, 6);
        Checks.due("41: bring", 1, x.bring(0));
        Checks.idle(x, "41: again", 0, () -> x.bring(0));
        x.put(4, 6, 0);
        x.put(4, 5, 0);
        Checks.due("41: an ALIKE one", 0, x.bring(4));
        Checks.due("41: an empty one", 1, x.bring(1));
        Checks.due("41: another empty one", 0, x.bring(5));
        x.put(4, 7, 0);
        Checks.due("41: it does not change later", 2, x.family(2));
        for (int key = 0; key < 6; key++) {
            x.put(2, key, 0);
            Checks.due("41: bring", 1, x.bring(2));
        }
        Checks.idle(x, "41: there are 8, and none is ALIKE", -9, () -> x.bring(4));
        Checks.idle(x, "41: there are 8, and one is ALIKE", 0, () -> x.bring(0));
        x.remove(1);
        Checks.due("41: there is room again", 1, x.bring(4));
    }

    private static void remove() {
        Setsalike x = Checks.with(0, 5, 6);
        Checks.due("42: of none", 0, x.remove(0));
        x.bring(0);
        x.bring(1);
        x.put(1, 1, 1);
        x.bring(1);
        Checks.due("42: not there", 0, x.remove(joined(x, 5, 0, 1)));
        Checks.fill(x, 3, 6, 5);
        Checks.due("42: an ALIKE one", 1, x.remove(3));
        Checks.due("42: again", 0, x.remove(0));
        Checks.due("42: two are left", 2, x.family(0));
        Checks.due("42: the empty one", true, x.isIn(2));
        Checks.due("42: that of 1", true, x.isIn(1));
        Checks.due("42: the last one", 1, x.remove(1));
        Checks.due("42: the empty one", 1, x.remove(2));
        Checks.due("42: none is left", 0, x.family(0));
        Checks.due("42: the SET stays", "5.5 6.6", x.text(0));
    }

    private static int joined(Setsalike x, int set, int one, int two) {
        x.join(set, one);
        x.join(set, two);
        return set;
    }

    private static void isIn() {
        Setsalike x = Checks.with(0, 5, 6);
        Checks.due("43: isIn", false, x.isIn(0));
        Checks.due("43: isIn of an empty one", false, x.isIn(1));
        x.bring(0);
        Checks.due("43: isIn", true, x.isIn(0));
        Checks.due("43: isIn of an empty one", false, x.isIn(1));
        x.put(0, 7, 0);
        Checks.due("43: it changed", false, x.isIn(0));
        x.drop(0, 7);
        Checks.due("43: and back", true, x.isIn(0));
        Checks.fill(x, 4, 6, 5);
        Checks.due("43: an ALIKE one", true, x.isIn(4));
    }

    private static void family() {
        Setsalike x = Checks.with(0, 5, 9, 14);
        x.bring(0);
        x.bring(1);
        Checks.fill(x, 4, 9, 28);
        x.bring(4);
        Checks.due("44: sets", 3, x.family(0));
        Checks.due("44: HASHES", 8 + 0 + 7, x.family(1));
        Checks.due("44: KEYS", 5, x.family(2));
        x.clear(0);
        Checks.due("44: HASHES", 15, x.family(1));
        Checks.due("44: KEYS", 5, x.family(2));
        x.remove(4);
        Checks.due("44: sets when one went", 2, x.family(0));
        Checks.due("44: HASHES when one went", 8, x.family(1));
        Checks.due("44: KEYS when one went", 3, x.family(2));
        Checks.idle(x, "44: family(-1)", "throws IllegalArgumentException", () -> x.family(-1));
        Checks.idle(x, "44: family(3)", "throws IllegalArgumentException", () -> x.family(3));
    }

    private static void house() {
        Setsalike x = Checks.with(0, 5, 9, 14);
        Checks.fill(x, 5, 5);
        x.put(0, 5, 5);
        x.drop(0, 9);
        x.row(1, 1);
        x.row(1, 1);
        x.walk(1, 0);
        Checks.due("45: THINGS", 3, x.house(0));
        Checks.due("45: ROW", 2, x.house(1));
        Checks.due("45: WALKS", 1, x.house(2));
        Checks.due("45: comings by put()", 4, x.house(3));
        x.putRow(3);
        Checks.due("45: comings by putRow()", 5, x.house(3));
        x.join(3, 0);
        Checks.due("45: comings by join()", 7, x.house(3));
        x.copy(4, 0);
        x.copy(1, 0);
        x.swap(1, 2);
        x.bring(0);
        x.isSound();
        x.digest();
        Checks.due("45: comings by nothing else", 7, x.house(3));
        Checks.due("45: knocks", 0, x.house(4));
        x.knock();
        Checks.due("45: knocks", 1, x.house(4));
        Checks.idle(x, "45: house(-1)", "throws IllegalArgumentException", () -> x.house(-1));
        Checks.idle(x, "45: house(5)", "throws IllegalArgumentException", () -> x.house(5));
    }

    private static void knock() {
        Setsalike x = new Setsalike();
        for (int i = 1; i <= 500; i++) {
            Checks.due("46: knock", i, x.knock());
        }
        Checks.due("46: of another object", 1, new Setsalike().knock());
    }

    private static void isSound() {
        Setsalike x = new Setsalike();
        Checks.due("47: of a new one", true, x.isSound());
        Checks.fill(x, 0, 9, 3, 7, 22);
        Checks.fill(x, 1, 3, 9, 22, 7);
        Checks.fill(x, 2, 29, 1);
        Checks.fill(x, 3, 7, 3, 22, 9);
        Checks.fill(x, 4, 1, 2, 3);
        x.walk(0, 0);
        x.next(0);
        Checks.idle(x, "47: of some", true, x::isSound);
        for (int key = 0; key < 30; key++) {
            Checks.fill(x, key % 6, 29 - key, key);
            Checks.due("47: isSound", true, x.isSound());
        }
    }

    private static void digestOfNew() {
        Setsalike x = new Setsalike();
        Checks.due("48: of a new one", Checks.digestOf(x), x.digest());
        Checks.due("48: again", x.digest(), x.digest());
    }

    private static void digestOfSome() {
        Setsalike x = Checks.with(0, 5, 29, 3);
        Checks.fill(x, 3, 3, 5);
        Checks.fill(x, 4, 29, 5, 3);
        Checks.fill(x, 5, 17);
        x.row(11, 2);
        x.row(3, 0);
        x.bring(0);
        x.walk(1, 0);
        x.knock();
        Checks.idle(x, "48: of some", Checks.digestOf(x), x::digest);
    }

    private static void digestTellsApart() {
        Setsalike x = Checks.with(0, 5, 29);
        Setsalike y = Checks.with(0, 29, 5);
        Checks.due("48: the SEQUENCE counts", false, x.digest() == y.digest());
        Setsalike z = Checks.with(0, 5, 29);
        Checks.due("48: the same calls, the same answer", x.digest(), z.digest());
        z.knock();
        Checks.due("48: knocks count", false, x.digest() == z.digest());
    }

    private static void wrong() {
        for (int set : new int[] {-1, 6, Integer.MAX_VALUE, Integer.MIN_VALUE}) {
            Twins.idle("41: bring", Twins::busy, Twins.INDEX, x -> x.bring(set));
            Twins.idle("42: remove", Twins::busy, Twins.INDEX, x -> x.remove(set));
            Twins.idle("43: isIn", Twins::busy, Twins.INDEX, x -> x.isIn(set));
        }
        Setsalike x = Checks.with(0, 5);
        for (int what : new int[] {-1, 5, Integer.MAX_VALUE, Integer.MIN_VALUE}) {
            Checks.bad("44: family", () -> x.family(what));
            Checks.bad("45: house", () -> x.house(what));
        }
    }
}

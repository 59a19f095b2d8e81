import java.lang.reflect.Array;
import java.lang.reflect.Field;

/** All in a new object, in one with some of everything, and in one that can take no more; what isSound() finds. */
public final class HouseEdgeTests {
    public static void main(String[] args) throws ReflectiveOperationException {
        newObject();
        apart();
        counts();
        comings();
        goings();
        knocks();
        digests();
        soundWhatever();
        unsound();
        unsoundByOneTwice();
        unsoundByTwoOfOnePlace();
        Checks.finish();
    }

    /** All SETS have all KEYS, from 29 down to 0 for the LINKED ones; the ROW and the FAMILY are full. */
    private static Setsalike full() {
        Setsalike x = new Setsalike();
        for (int key = 0; key < 7; key++) {
            x.put(5, key, 0);
            x.bring(5);
        }
        x.clear(5);
        for (int key = 29; key >= 0; key--) {
            for (int set = 0; set < 6; set++) {
                x.put(set, key, key % 10);
            }
        }
        x.bring(0);
        for (int i = 0; i < 12; i++) {
            x.row(29 - i, 9);
        }
        x.walk(0, 0);
        x.walk(1, 1);
        for (int i = 0; i < 3; i++) {
            x.knock();
        }
        return x;
    }

    private static void newObject() {
        Setsalike x = new Setsalike();
        for (int set = 0; set < 6; set++) {
            Checks.due("1: text", "", x.text(set));
            Checks.due("1: isEmpty", true, x.isEmpty(set));
            Checks.due("1: none is in the FAMILY", false, x.isIn(set));
        }
        for (int what = 0; what < 5; what++) {
            Checks.due("1: house", 0, x.house(what));
        }
        for (int what = 0; what < 3; what++) {
            Checks.due("1: family", 0, x.family(what));
        }
        Checks.due("1: no WALK is under way", -2, x.ofWalk(0) + x.ofWalk(1));
        Checks.due("1: rowText", "", x.rowText());
        Checks.due("1: isSound", true, x.isSound());
    }

    /** What one object has, no other one has. */
    private static void apart() {
        String before = Checks.state(new Setsalike());
        full();
        Checks.due("1: a new object beside a full one", before, Checks.state(new Setsalike()));
        Setsalike x = new Setsalike();
        Setsalike y = new Setsalike();
        x.put(0, 1, 1);
        x.row(1, 1);
        x.bring(0);
        x.walk(0, 0);
        x.knock();
        Checks.due("1: one beside another", before, Checks.state(y));
    }

    private static void counts() {
        Setsalike x = full();
        Checks.due("45: all THINGS", 180, x.house(0));
        Checks.due("45: a full ROW", 12, x.house(1));
        Checks.due("45: both WALKS", 2, x.house(2));
        Checks.due("45: how often a THING came", 187, x.house(3));
        Checks.due("45: how often one knocked", 3, x.house(4));
        Checks.due("44: a full FAMILY", 8, x.family(0));
    }

    private static void comings() {
        Setsalike x = Checks.with(0, 8, 3, 8);
        Checks.due("45: what is there comes not", 2, x.house(3));
        x.drop(0, 8);
        Checks.due("45: what goes counts still", 2, x.house(3));
        x.put(0, 8, 1);
        Checks.due("45: what comes again counts again", 3, x.house(3));
        x.row(8, 1);
        x.row(9, 1);
        x.row(9, 1);
        x.row(1, 1);
        Checks.due("45: what comes to the ROW does not count", 3, x.house(3));
        x.putRow(0);
        Checks.due("45: two of four came by putRow()", 5, x.house(3));
        x.join(1, 0);
        Checks.due("45: four came by join()", 9, x.house(3));
        x.join(1, 0);
        Checks.due("45: none came by join()", 9, x.house(3));
        x.put(4, 3, 3);
        x.join(4, 1);
        Checks.due("45: one by put(), three by join()", 13, x.house(3));
        Checks.tried(() -> x.join(0, 4));
        Checks.tried(() -> x.put(5, 30, 0));
        Checks.due("45: what is refused does not count", 13, x.house(3));
    }

    private static void goings() {
        Setsalike x = full();
        x.copy(2, 0);
        x.swap(1, 2);
        x.swap(4, 5);
        x.isSound();
        x.digest();
        x.withNothing(0, 0);
        x.meddle(0, 0);
        Checks.due("45: no THING came by these", 187, x.house(3));
        x.walk(0, 0);
        x.next(0);
        x.takeAway(0);
        Checks.due("45: one less by takeAway()", 179, x.house(0));
        Checks.due("45: one WALK is under way", 1, x.house(2));
        x.clear(3);
        Checks.due("45: 30 less by clear()", 149, x.house(0));
        x.rest(0);
        Checks.due("45: none is under way", 0, x.house(2));
        x.clearRow();
        Checks.due("45: none is in the ROW", 0, x.house(1));
        Checks.due("45: they came all the same", 187, x.house(3));
    }

    private static void knocks() {
        Twins.same("46: the first knock", Setsalike::new, 1, x -> x.knock(), x -> x.knock());
        Setsalike x = new Setsalike();
        for (int i = 1; i <= 255; i++) {
            Checks.due("46: knock", i, x.knock());
            Checks.due("45: how often one knocked", i, x.house(4));
        }
        Setsalike y = Twins.busy();
        String before = y.text(0) + y.text(1) + y.text(3) + y.rowText() + y.ofWalk(0) + y.ofWalk(1) + y.house(3);
        y.knock();
        Checks.due("46: nothing else changes", before,
                y.text(0) + y.text(1) + y.text(3) + y.rowText() + y.ofWalk(0) + y.ofWalk(1) + y.house(3));
    }

    /** The numbers were computed from the document's words by a program apart, with whole numbers of any size. */
    private static void digests() {
        Checks.due("48: of a new object", 4110702059718416604L, new Setsalike().digest());
        Checks.due("48: of some of everything", -821956052435034407L, Twins.busy().digest());
        Checks.due("48: of all that there can be", -2734070375769661270L, full().digest());
        Twins.idle("48: digest changes nothing", Twins::busy, -821956052435034407L, x -> x.digest());
        Twins.idle("48: nor in a full one", HouseEdgeTests::full, -2734070375769661270L, x -> x.digest());
    }

    private static void soundWhatever() {
        Twins.idle("47: isSound of a new object", Setsalike::new, true, x -> x.isSound());
        Twins.idle("47: isSound of some of everything", Twins::busy, true, x -> x.isSound());
        Twins.idle("47: isSound of a full one", HouseEdgeTests::full, true, x -> x.isSound());
    }

    /** No run of calls makes it false; so a SET is put out of order from outside, as a fault in it would do. */
    private static void unsound() throws ReflectiveOperationException {
        for (int set = 0; set < 6; set++) {
            Setsalike x = new Setsalike();
            Checks.fill(x, set, 8, 3);
            Field bits = fieldOf(x, set, "bits");
            bits.setInt(thingsOf(x, set), 1 << 8 | 1 << 3 | 1);
            Checks.due("47: has() tells one more than size()", false, x.isSound());
            bits.setInt(thingsOf(x, set), 1 << 8);
            Checks.due("47: has() tells one less than size()", false, x.isSound());
            bits.setInt(thingsOf(x, set), 1 << 8 | 1 << 4);
            Checks.due("47: has() tells another one", false, x.isSound());
            Checks.due("48: which the digest tells", Checks.digestOf(x), x.digest());
            bits.setInt(thingsOf(x, set), 1 << 8 | 1 << 3);
            Checks.due("47: in order again", true, x.isSound());
        }
    }

    private static void unsoundByOneTwice() throws ReflectiveOperationException {
        for (int set = 0; set < 6; set++) {
            Setsalike x = new Setsalike();
            Checks.fill(x, set, 8, 3);
            int[] line = (int[]) fieldOf(x, set, "line").get(thingsOf(x, set));
            line[2] = line[0];
            fieldOf(x, set, "count").setInt(thingsOf(x, set), 3);
            Checks.due("47: size() tells one more than has()", false, x.isSound());
            fieldOf(x, set, "count").setInt(thingsOf(x, set), 2);
            Checks.due("47: in order again", true, x.isSound());
        }
    }

    /** size() and hash() are as has() tells them; only what a copy of its own has is something else. */
    private static void unsoundByTwoOfOnePlace() throws ReflectiveOperationException {
        for (int set = 0; set < 6; set++) {
            Setsalike x = new Setsalike();
            Checks.fill(x, set, 8, 4);
            Field bits = fieldOf(x, set, "bits");
            bits.setInt(thingsOf(x, set), 1 << 13 | 1 << 4);
            Checks.due("47: less a copy of its own it is not empty", false, x.isSound());
            bits.setInt(thingsOf(x, set), 1 << 8 | 1 << 4);
            Checks.due("47: in order again", true, x.isSound());
        }
    }

    private static Object thingsOf(Setsalike x, int set) throws ReflectiveOperationException {
        Field sets = Setsalike.class.getDeclaredField("sets");
        sets.setAccessible(true);
        return Array.get(sets.get(x), set);
    }

    private static Field fieldOf(Setsalike x, int set, String name) throws ReflectiveOperationException {
        Field field = thingsOf(x, set).getClass().getDeclaredField(name);
        field.setAccessible(true);
        return field;
    }
}

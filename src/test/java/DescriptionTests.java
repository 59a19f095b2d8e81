/** What stands ahead of the promises ("What it is", "Description"), sentence by sentence, for each SET and each WALK. */
public final class DescriptionTests {
    private interface Change {
        Object on(Setsalike x, int set);
    }

    private static final int PLAIN_ALIKE = 3;

    public static void main(String[] args) {
        for (int set = 0; set < 6; set++) {
            keptApart(set);
            places(set);
            keepsItsMark(set);
            sequence(set);
            familyKeeps(set);
            for (int other = 0; other < 6; other++) {
                marksDoNotCount(set, other);
            }
        }
        for (int walk = 0; walk < 2; walk++) {
            for (int set = 0; set < 3; set++) {
                walkEnds(walk, set);
                walkGoesOn(walk, set);
            }
        }
        Checks.finish();
    }

    // ---- 1. Things, sets

    /** "Six sets of things side by side, three that keep the sequence in which things came, three that do not". */
    private static void keptApart(int set) {
        Setsalike x = Checks.with(set, 20, 4, 11);
        for (int other = 0; other < 6; other++) {
            String due = other != set ? "" : set < 3 ? "20.0 4.4 11.1" : "4.4 11.1 20.0";
            Checks.due("Description 1: SET " + other + " beside " + set, due, x.text(other));
        }
    }

    /** "PLACE of a KEY: its rest by 5 (so six KEYS share each one)"; the HASH is the sum of the PLACES. */
    private static void places(int set) {
        for (int place = 0; place < 5; place++) {
            Setsalike x = new Setsalike();
            for (int i = 0; i < 6; i++) {
                x.put(set, place + 5 * i, i);
                Checks.due("Description 1: HASH of " + (i + 1) + " at " + place, place * (i + 1), x.hash(set));
            }
            Checks.due("Description 1: six KEYS share PLACE " + place, 6, x.many(set, 3, place));
            Checks.due("Description 1: and are all there", 6, x.pick(set, 3, place));
        }
    }

    /** "Two THINGS with the same KEY are the same for a SET [..] that which is there keeps its MARK". */
    private static void keepsItsMark(int set) {
        int other = set < 3 ? (set + 1) % 3 : 0;
        for (int mark = 0; mark < 10; mark++) {
            Setsalike x = new Setsalike();
            x.put(set, 17, mark);
            x.put(other, 17, 9 - mark);
            x.row(17, (mark + 1) % 10);
            Checks.due("Description 1: by put()", 0, x.put(set, 17, 9 - mark));
            Checks.due("Description 1: by putRow()", 0, x.putRow(set));
            Checks.due("Description 1: by join()", 0, x.join(set, other));
            Checks.due("Description 1: it keeps its MARK", "17." + mark, x.text(set));
            x.copy(set, other);
            Checks.due("Description 1: but not by copy()", "17." + (9 - mark), x.text(set));
        }
    }

    /** "ALIKE are two SETS with the same KEYS", whatever their MARKS; so with all that compares KEYS. */
    private static void marksDoNotCount(int set, int other) {
        if (set == other) {
            return;
        }
        String which = " of " + set + " and " + other;
        Setsalike x = otherMarks(set, other);
        Checks.due("25: isAlike" + which, true, x.isAlike(set, other));
        Checks.due("26: holds" + which, true, x.holds(set, other));
        Checks.due("28: isApart" + which, false, x.isApart(set, other));
        Checks.due("27: holdsRow", true, x.holdsRow(set));
        Checks.due("41: bring", 1, x.bring(set));
        Checks.due("43: isIn" + which, true, x.isIn(other));
        Checks.due("41: bring" + which, 0, x.bring(other));
        Checks.due("42: remove" + which, 1, x.remove(other));
        Checks.due("12: common" + which, 0, x.common(set, other));
        Checks.due("12: those keep their MARKS", set < 3 ? "9.1 4.2" : "4.2 9.1", x.text(set));
        Checks.due("11: less" + which, 1, x.less(set, other));
        Checks.due("11: none is left", "", x.text(set));
    }

    private static Setsalike otherMarks(int set, int other) {
        Setsalike x = new Setsalike();
        x.put(set, 9, 1);
        x.put(set, 4, 2);
        x.put(other, 4, 3);
        x.put(other, 9, 4);
        x.row(9, 5);
        return x;
    }

    /** "The SEQUENCE of a LINKED SET: its THINGS as they came, the first one first. A PLAIN one has none". */
    private static void sequence(int set) {
        int other = set < 3 ? (set + 1) % 3 : 0;
        Setsalike x = Checks.with(set, 20, 4, 11);
        told("put()", x, set, "20.0 4.4 11.1", "4.4 11.1 20.0");
        x.row(7, 1);
        x.row(4, 9);
        x.row(29, 2);
        x.putRow(set);
        told("putRow()", x, set, "20.0 4.4 11.1 7.1 29.2", "4.4 7.1 11.1 20.0 29.2");
        Checks.fill(x, other, 28, 7, 0);
        x.join(set, other);
        told("join()", x, set, "20.0 4.4 11.1 7.1 29.2 28.8 0.0", "0.0 4.4 7.1 11.1 20.0 28.8 29.2");
        x.drop(set, 4);
        told("drop()", x, set, "20.0 11.1 7.1 29.2 28.8 0.0", "0.0 7.1 11.1 20.0 28.8 29.2");
        x.put(set, 4, 3);
        told("what comes again", x, set, "20.0 11.1 7.1 29.2 28.8 0.0 4.3", "0.0 4.3 7.1 11.1 20.0 28.8 29.2");
        x.dropIf(set, 2, 8);
        told("dropIf()", x, set, "20.0 11.1 7.1 29.2 0.0 4.3", "0.0 4.3 7.1 11.1 20.0 29.2");
        x.pick(set, 2, 1);
        told("pick()", x, set, "20.0 29.2 0.0 4.3", "0.0 4.3 20.0 29.2");
        x.drop(other, 28);
        x.less(set, other);
        told("less()", x, set, "20.0 29.2 4.3", "4.3 20.0 29.2");
        Checks.fill(x, other, 4, 20);
        x.common(set, other);
        told("common()", x, set, "20.0 4.3", "4.3 20.0");
        x.copy(set, other);
        told("copy()", x, set, "7.7 0.0 4.4 20.0", "0.0 4.4 7.7 20.0");
        x.clear(set);
        Checks.fill(x, set, 3, 2);
        told("what comes behind clear()", x, set, "3.3 2.2", "2.2 3.3");
    }

    private static void told(String way, Setsalike x, int set, String linked, String plain) {
        String due = set < 3 ? linked : plain;
        Checks.due("Description 1: SET " + set + " behind " + way, due, x.text(set));
        if (set < 3) {
            String[] things = linked.split(" ");
            for (int i = 0; i < things.length; i++) {
                int key = Integer.parseInt(things[i].split("\\.")[0]);
                Checks.due("24: at of " + key + " behind " + way, i, x.at(set, key));
            }
        }
    }

    // ---- 2. Walks, families

    /** "A set in it is as the SET was as it was put in (it does not change later)". */
    private static void familyKeeps(int set) {
        int other = set < 3 ? (set + 1) % 3 : (set + 1) % 3 + 3;
        kept("put()", set, x -> x.put(set, 29, 0));
        kept("drop()", set, x -> x.drop(set, 9));
        kept("clear()", set, x -> x.clear(set));
        kept("dropIf()", set, x -> x.dropIf(set, 0, 5));
        kept("pick()", set, x -> x.pick(set, 0, 5));
        kept("putRow()", set, x -> x.putRow(set));
        kept("join()", set, x -> x.join(set, other));
        kept("less()", set, x -> x.less(set, other));
        kept("common()", set, x -> x.common(set, other));
        kept("copy()", set, x -> x.copy(set, other));
        kept("swap()", set, x -> x.swap(set, other));
        kept("swap(), the other way round", set, x -> x.swap(other, set));
        if (set < 3) {
            kept("takeAway()", set, x -> {
                x.walk(1, set);
                x.next(1);
                return x.takeAway(1);
            });
        }
    }

    /** The SET has 9, 4 and 13, the next one of its kind 4 and 28; WITNESS tells whether the brought one is as it was. */
    private static void kept(String way, int set, Twins.Call change) {
        int other = set < 3 ? (set + 1) % 3 : (set + 1) % 3 + 3;
        int witness = set < 3 ? 5 : 0;
        Setsalike x = Checks.with(set, 9, 4, 13);
        Checks.fill(x, other, 4, 28);
        x.row(22, 2);
        x.copy(witness, witness == 0 ? putAll(x, 1, 9, 4, 13) : set);
        x.bring(set);
        change.on(x);
        String which = " of " + set + " behind " + way;
        Checks.due("Description 2: that" + which + " changed", false, x.isAlike(set, witness));
        Checks.due("Description 2: what was brought" + which, true, x.isIn(witness));
        Checks.due("Description 2: the SET itself" + which, false, x.isIn(set));
        Checks.due("Description 2: the sets" + which, 1, x.family(0));
        Checks.due("Description 2: the HASHES" + which, 4 + 4 + 3, x.family(1));
        Checks.due("Description 2: the KEYS" + which, 3, x.family(2));
    }

    private static int putAll(Setsalike x, int set, int... keys) {
        Checks.fill(x, set, keys);
        return set;
    }

    /** The WALK over SET has given 8 of 8, 3 and 5; the other WALK goes over the next SET, that has 3 and 2. */
    private static Setsalike walked(int walk, int set) {
        Setsalike x = Checks.with(set, 8, 3, 5);
        Checks.fill(x, next(set), 3, 2);
        Checks.fill(x, PLAIN_ALIKE, 3, 8, 5);
        x.row(11, 2);
        x.walk(walk, set);
        x.next(walk);
        x.walk(1 - walk, next(set));
        x.next(1 - walk);
        return x;
    }

    private static int next(int set) {
        return (set + 1) % 3;
    }

    private static int third(int set) {
        return (set + 2) % 3;
    }

    /** "It ends [..] if its SET changes by whatever but takeAway() of this WALK; also by clear() and swap() [..]". */
    private static void walkEnds(int walk, int set) {
        ends("put()", walk, set, (x, s) -> x.put(s, 29, 0));
        ends("drop()", walk, set, (x, s) -> x.drop(s, 5));
        ends("clear()", walk, set, (x, s) -> x.clear(s));
        ends("dropIf()", walk, set, (x, s) -> x.dropIf(s, 2, 5));
        ends("pick()", walk, set, (x, s) -> x.pick(s, 2, 5));
        ends("putRow()", walk, set, (x, s) -> x.putRow(s));
        ends("join()", walk, set, (x, s) -> x.join(s, next(s)));
        ends("less()", walk, set, (x, s) -> x.less(s, next(s)));
        ends("common()", walk, set, (x, s) -> x.common(s, next(s)));
        ends("copy()", walk, set, (x, s) -> x.copy(s, next(s)));
        ends("copy() of none", walk, set, (x, s) -> x.copy(s, third(s)));
        ends("swap()", walk, set, (x, s) -> x.swap(s, third(s)));
        ends("swap(), the other way round", walk, set, (x, s) -> x.swap(third(s), s));
        ends("rest()", walk, set, (x, s) -> x.rest(walk));
        ends("next() behind the last one", walk, set, (x, s) -> x.next(walk) + x.next(walk) + x.next(walk));
        Setsalike x = walked(walk, set);
        x.swap(set, next(set));
        Checks.due("Description 2: both end with swap() of their SETS", 0, x.house(2));
        Setsalike y = walked(walk, set);
        y.walk(1 - walk, set);
        y.next(1 - walk);
        Checks.due("Description 2: takeAway() of the other WALK", 8, y.takeAway(1 - walk));
        Checks.due("Description 2: ends this one", -1, y.ofWalk(walk));
        Checks.due("Description 2: but not that one", 3, y.next(1 - walk));
    }

    private static void ends(String way, int walk, int set, Change change) {
        Setsalike x = walked(walk, set);
        change.on(x, set);
        String which = "Description 2: WALK " + walk + " over " + set + " behind " + way;
        Checks.due(which, -1, x.ofWalk(walk));
        Checks.notNow(which + ", next()", () -> x.next(walk));
        Checks.due(which + ", the other one", next(set), x.ofWalk(1 - walk));
        Checks.due(which + ", which goes on", 2, x.next(1 - walk));
        Checks.due(which + ", and anew", x.size(set), x.walk(walk, set));
    }

    private static void walkGoesOn(int walk, int set) {
        goesOn("nothing", walk, set, (x, s) -> 0);
        goesOn("put() of one that is there", walk, set, (x, s) -> x.put(s, 5, 0));
        goesOn("drop() of one that is not there", walk, set, (x, s) -> x.drop(s, 4));
        goesOn("dropIf() that is so of none", walk, set, (x, s) -> x.dropIf(s, 2, 9));
        goesOn("pick() that is so of none", walk, set, (x, s) -> x.pick(s, 2, 9));
        goesOn("join() of none", walk, set, (x, s) -> x.join(s, third(s)));
        goesOn("less() of none", walk, set, (x, s) -> x.less(s, third(s)));
        goesOn("common() of an ALIKE one", walk, set, (x, s) -> x.common(s, PLAIN_ALIKE));
        goesOn("copy() to another one", walk, set, (x, s) -> x.copy(third(s), s));
        goesOn("join() to another one", walk, set, (x, s) -> x.join(4, s));
        goesOn("change of another one", walk, set, (x, s) -> x.put(third(s), 8, 0) + x.clear(third(s)));
        goesOn("swap() of PLAIN ones", walk, set, (x, s) -> x.swap(PLAIN_ALIKE, 4));
        goesOn("bring() and remove()", walk, set, (x, s) -> x.bring(s) + x.remove(s));
        goesOn("all of another WALK", walk, set, (x, s) -> x.walk(1 - walk, s) + x.rest(1 - walk));
        Setsalike x = walked(walk, set);
        Checks.due("Description 2: takeAway() of this WALK", 8, x.takeAway(walk));
        Checks.due("Description 2: does not end it", set, x.ofWalk(walk));
        Checks.due("Description 2: nor leaves out one", 3, x.next(walk));
        Checks.due("Description 2: again", 3, x.takeAway(walk));
        Checks.due("Description 2: and the last one", 5, x.rest(walk));
        Checks.due("Description 2: which stays", "5.5", x.text(set));
    }

    private static void goesOn(String way, int walk, int set, Change change) {
        Setsalike x = walked(walk, set);
        change.on(x, set);
        String which = "Description 2: WALK " + walk + " over " + set + " goes on by " + way;
        Checks.due(which, set, x.ofWalk(walk));
        Checks.due(which + ", next()", 3, x.next(walk));
        Checks.due(which + ", takeAway()", 3, x.takeAway(walk));
        Checks.due(which + ", rest()", 5, x.rest(walk));
    }
}

/** A SET with none, with one and with all 30 KEYS, LINKED and PLAIN: what each call that takes a SET does with it. */
public final class SetEdgeTests {
    private static final int LINKED = 1;
    private static final int PLAIN = 4;
    private static final int[] BOTH = {LINKED, PLAIN};

    public static void main(String[] args) {
        for (int set : BOTH) {
            putAndDrop(set);
            clear(set);
            dropIf(set);
            pick(set);
            amounts(set);
            keys(set);
            hashAndSum(set);
            many(set);
            looks(set);
            meddle(set);
            family(set);
            house(set);
        }
        text();
        first();
        at();
        join();
        joinTells();
        less();
        common();
        copy();
        swap();
        compare();
        sequence();
        Checks.finish();
    }

    private static Setsalike none() {
        return new Setsalike();
    }

    private static Setsalike one(int set) {
        Setsalike x = new Setsalike();
        x.put(set, 7, 3);
        return x;
    }

    /** All KEYS, from 29 down to 0, each with its last digit as MARK. */
    private static Setsalike all(int set) {
        Setsalike x = new Setsalike();
        fillAll(x, set);
        return x;
    }

    private static void fillAll(Setsalike x, int set) {
        for (int key = 29; key >= 0; key--) {
            x.put(set, key, key % 10);
        }
    }

    private static void due(String what, Setsalike x, Object want, Twins.Call call) {
        Checks.due(what, want, Checks.tried(() -> call.on(x)));
    }

    private static void putAndDrop(int set) {
        Setsalike x = none();
        due("2: put into none", x, 1, y -> y.put(set, 7, 3));
        Checks.due("2: text of one", "7.3", x.text(set));
        Twins.idle("2: put of the one again", () -> one(set), 0, y -> y.put(set, 7, 9));
        Checks.due("2: put into one", 1, x.put(set, 6, 0));
        for (int key = 0; key < 30; key++) {
            final int k = key;
            Twins.idle("2: put into all", () -> all(set), 0, y -> y.put(set, k, 5));
        }
        Twins.idle("3: drop from none", SetEdgeTests::none, 0, y -> y.drop(set, 7));
        Twins.idle("3: drop of another one", () -> one(set), 0, y -> y.drop(set, 8));
        x = one(set);
        Checks.due("3: drop of the one", 1, x.drop(set, 7));
        Checks.due("3: none is left", "", x.text(set));
        x = all(set);
        for (int key = 0; key < 30; key++) {
            Checks.due("3: drop from all", 1, x.drop(set, key));
            Checks.due("3: it went", -1, x.mark(set, key));
            Checks.due("3: size", 29 - key, x.size(set));
        }
    }

    private static void clear(int set) {
        Twins.idle("4: clear of none", SetEdgeTests::none, 0, y -> y.clear(set));
        Twins.same("4: clear of one", () -> one(set), 1, y -> y.clear(set), y -> y.drop(set, 7));
        Setsalike x = all(set);
        due("4: clear of all", x, 30, y -> y.clear(set));
        Checks.due("4: nothing is left", "", x.text(set));
        Checks.due("4: it is empty", true, x.isEmpty(set));
        fillAll(x, set);
        Checks.due("4: all came anew", 60, x.house(3));
    }

    private static void dropIf(int set) {
        Twins.idle("5: dropIf of none", SetEdgeTests::none, 0, y -> y.dropIf(set, 0, 29));
        Twins.idle("5: dropIf that is not so of the one", () -> one(set), 0, y -> y.dropIf(set, 0, 7));
        Twins.same("5: dropIf that is so of the one", () -> one(set), 1, y -> y.dropIf(set, 0, 8), y -> y.clear(set));
        Twins.idle("5: dropIf of all that is so of none", () -> all(set), 0, y -> y.dropIf(set, 0, 0));
        Setsalike x = all(set);
        due("5: dropIf of all but 29", x, 1, y -> y.dropIf(set, 0, 29));
        Checks.due("5: 29 is left", "29.9", x.text(set));
        Setsalike z = allMarked(set);
        due("5: dropIf of all", z, 1, y -> y.dropIf(set, 2, 9));
        Checks.due("5: none is left", "", z.text(set));
    }

    private static Setsalike allMarked(int set) {
        Setsalike x = new Setsalike();
        for (int key = 0; key < 30; key++) {
            x.put(set, key, 9);
        }
        return x;
    }

    private static void pick(int set) {
        Twins.idle("6: pick of none", SetEdgeTests::none, 0, y -> y.pick(set, 0, 29));
        Twins.idle("6: pick that is not so of the one", () -> one(set), 0, y -> y.pick(set, 0, 7));
        Twins.same("6: pick that is so of the one", () -> one(set), 1, y -> y.pick(set, 0, 8), y -> y.clear(set));
        Twins.idle("6: pick of all that is so of none", () -> all(set), 0, y -> y.pick(set, 0, 0));
        Setsalike x = all(set);
        due("6: pick of all but 29", x, 29, y -> y.pick(set, 0, 29));
        Checks.due("6: 29 is left", "29.9", x.text(set));
        Twins.same("6: pick of all", () -> allMarked(set), 30, y -> y.pick(set, 2, 9), y -> y.clear(set));
    }

    private static void amounts(int set) {
        due("16: size of none", none(), 0, x -> x.size(set));
        due("16: size of one", one(set), 1, x -> x.size(set));
        due("16: size of all", all(set), 30, x -> x.size(set));
        due("17: isEmpty of none", none(), true, x -> x.isEmpty(set));
        due("17: isEmpty of one", one(set), false, x -> x.isEmpty(set));
        due("17: isEmpty of all", all(set), false, x -> x.isEmpty(set));
    }

    private static void keys(int set) {
        for (int key = 0; key < 30; key++) {
            final int k = key;
            boolean isOne = key == 7;
            due("15: has of none", none(), false, x -> x.has(set, k));
            due("15: has of one", one(set), isOne, x -> x.has(set, k));
            due("15: has of all", all(set), true, x -> x.has(set, k));
            due("18: mark of none", none(), -1, x -> x.mark(set, k));
            due("18: mark of one", one(set), isOne ? 3 : -1, x -> x.mark(set, k));
            due("18: mark of all", all(set), key % 10, x -> x.mark(set, k));
            due("29: often of none", none(), 0, x -> x.often(set, k));
            due("29: often of one", one(set), isOne ? 1 : 0, x -> x.often(set, k));
            due("29: often of all", all(set), 1, x -> x.often(set, k));
            due("33: seenHas of none", none(), false, x -> x.seenHas(set, k));
            due("33: seenHas of one", one(set), isOne, x -> x.seenHas(set, k));
            due("33: seenHas of all", all(set), true, x -> x.seenHas(set, k));
        }
    }

    private static void hashAndSum(int set) {
        due("20: hash of none", none(), 0, x -> x.hash(set));
        due("20: hash of all", all(set), 60, x -> x.hash(set));
        for (int key = 0; key < 30; key++) {
            Setsalike x = new Setsalike();
            x.put(set, key, 9);
            Checks.due("20: hash of one is its PLACE", key - key / 5 * 5, x.hash(set));
            Checks.due("21: sum of one", key + 9, x.sum(set));
        }
        due("21: sum of none", none(), 0, x -> x.sum(set));
        due("21: sum of all", all(set), 435 + 135, x -> x.sum(set));
    }

    private static void many(int set) {
        due("22: many of none", none(), 0, x -> x.many(set, 0, 29));
        due("22: many of one, not so", one(set), 0, x -> x.many(set, 0, 7));
        due("22: many of one, so", one(set), 1, x -> x.many(set, 0, 8));
        due("22: many of all, so of none", all(set), 0, x -> x.many(set, 0, 0));
        due("22: many of all but 29", all(set), 29, x -> x.many(set, 0, 29));
        due("22: many of all", allMarked(set), 30, x -> x.many(set, 2, 9));
    }

    private static void looks(int set) {
        int[][] due = {{0, 0, 1, 1, 0}, {1, 2, 1, 1, 7}, {30, 60, 1, 1, 435}};
        for (int what = 0; what < 5; what++) {
            final int w = what;
            Twins.idle("32: seen of none", SetEdgeTests::none, due[0][w], x -> x.seen(set, w));
            Twins.idle("32: seen of one", () -> one(set), due[1][w], x -> x.seen(set, w));
            Twins.idle("32: seen of all", () -> all(set), due[2][w], x -> x.seen(set, w));
        }
    }

    private static void meddle(int set) {
        for (int what = 0; what < 5; what++) {
            final int w = what;
            Twins.idle("34: meddle with none", SetEdgeTests::none, what == 3 ? 0 : -9, x -> x.meddle(set, w));
            Twins.idle("34: meddle with one", () -> one(set), -9, x -> x.meddle(set, w));
            Twins.idle("34: meddle with all", () -> all(set), -9, x -> x.meddle(set, w));
        }
        for (int what = 0; what < 4; what++) {
            final int w = what;
            Twins.idle("31: withNothing and none", SetEdgeTests::none, -9, x -> x.withNothing(set, w));
            Twins.idle("31: withNothing and one", () -> one(set), -9, x -> x.withNothing(set, w));
            Twins.idle("31: withNothing and all", () -> all(set), -9, x -> x.withNothing(set, w));
        }
    }

    private static void family(int set) {
        familyOf("none", none(), set, 0, 0);
        familyOf("one", one(set), set, 2, 1);
        familyOf("all", all(set), set, 60, 30);
    }

    private static void familyOf(String which, Setsalike x, int set, int hash, int keys) {
        Checks.due("43: isIn of " + which + ", not yet", false, x.isIn(set));
        Checks.due("42: remove of " + which + ", not yet", 0, x.remove(set));
        Checks.due("41: bring of " + which, 1, x.bring(set));
        Checks.due("41: bring of " + which + " again", 0, x.bring(set));
        Checks.due("43: isIn of " + which, true, x.isIn(set));
        Checks.due("44: family with " + which, 1, x.family(0));
        Checks.due("44: its HASHES with " + which, hash, x.family(1));
        Checks.due("44: its KEYS with " + which, keys, x.family(2));
        Checks.due("42: remove of " + which, 1, x.remove(set));
        Checks.due("43: isIn of " + which + " that went", false, x.isIn(set));
    }

    private static void house(int set) {
        due("45: THINGS of none", none(), 0, x -> x.house(0));
        due("45: THINGS of one", one(set), 1, x -> x.house(0));
        due("45: THINGS of all", all(set), 30, x -> x.house(0));
        Setsalike x = allOfAll();
        Checks.due("45: THINGS of six with all", 180, x.house(0));
        Checks.due("45: they came", 180, x.house(3));
        Checks.due("47: isSound with all", true, x.isSound());
        Checks.due("48: digest with all", Checks.digestOf(x), x.digest());
        for (Setsalike y : new Setsalike[] {none(), one(set), all(set)}) {
            Checks.due("47: isSound", true, y.isSound());
            Checks.due("48: digest", Checks.digestOf(y), y.digest());
        }
    }

    private static Setsalike allOfAll() {
        Setsalike x = new Setsalike();
        for (int set = 0; set < 6; set++) {
            fillAll(x, set);
        }
        return x;
    }

    private static void text() {
        due("19: text of a LINKED one with none", none(), "", x -> x.text(LINKED));
        due("19: text of a PLAIN one with none", none(), "", x -> x.text(PLAIN));
        due("19: text of a LINKED one with one", one(LINKED), "7.3", x -> x.text(LINKED));
        due("19: text of a PLAIN one with one", one(PLAIN), "7.3", x -> x.text(PLAIN));
        StringBuilder rising = new StringBuilder();
        StringBuilder falling = new StringBuilder();
        for (int key = 0; key < 30; key++) {
            rising.append(key == 0 ? "" : " ").append(key).append('.').append(key % 10);
            falling.append(key == 0 ? "" : " ").append(29 - key).append('.').append((29 - key) % 10);
        }
        due("19: text of a LINKED one with all", all(LINKED), falling.toString(), x -> x.text(LINKED));
        due("19: text of a PLAIN one with all", all(PLAIN), rising.toString(), x -> x.text(PLAIN));
    }

    private static void first() {
        Twins.idle("23: first of none", SetEdgeTests::none, -9, x -> x.first(LINKED));
        due("23: first of one", one(LINKED), 7, x -> x.first(LINKED));
        due("23: first of all", all(LINKED), 29, x -> x.first(LINKED));
    }

    private static void at() {
        for (int key = 0; key < 30; key++) {
            final int k = key;
            due("24: at of none", none(), -1, x -> x.at(LINKED, k));
            due("24: at of one", one(LINKED), key == 7 ? 0 : -1, x -> x.at(LINKED, k));
            due("24: at of all", all(LINKED), 29 - key, x -> x.at(LINKED, k));
        }
    }

    private static void join() {
        Twins.idle("10: join of none and none", SetEdgeTests::none, 0, x -> x.join(LINKED, 0));
        Twins.idle("10: join of one and none", () -> one(LINKED), 0, x -> x.join(LINKED, 0));
        Twins.idle("10: join of all and none", () -> all(LINKED), 0, x -> x.join(LINKED, 0));
        Twins.idle("10: join of all and one", () -> allAndOne(LINKED, 0), 0, x -> x.join(LINKED, 0));
        Twins.idle("10: join of all and all", SetEdgeTests::allOfAll, 0, x -> x.join(LINKED, 0));
        Twins.idle("10: join of PLAIN ones, all and all", SetEdgeTests::allOfAll, 0, x -> x.join(PLAIN, 3));
        Twins.idle("10: join of PLAIN and LINKED, all and all", SetEdgeTests::allOfAll, 0, x -> x.join(PLAIN, 0));
    }

    private static Setsalike allAndOne(int withAll, int withOne) {
        Setsalike x = all(withAll);
        x.put(withOne, 7, 3);
        return x;
    }

    private static void joinTells() {
        Setsalike x = allAndOne(LINKED, 0);
        Checks.due("10: join of one and all", 1, x.join(0, LINKED));
        Checks.due("10: it has all then", 30, x.size(0));
        Checks.due("10: 29 came", 60, x.house(3));
        Checks.due("10: the one is first still, with its MARK", "7.3 29.9 28.8", x.text(0).substring(0, 13));
        Checks.due("10: join of none and all", 1, x.join(2, LINKED));
        Checks.due("10: in its SEQUENCE", x.text(LINKED), x.text(2));
        Checks.due("10: 30 came", 90, x.house(3));
        Checks.due("10: join of none and one", 1, one(0).join(2, 0));
        Checks.due("10: PLAIN join of none and all", 1, x.join(PLAIN, LINKED));
        Checks.due("10: by rising KEYS", all(PLAIN).text(PLAIN), x.text(PLAIN));
    }

    private static void less() {
        Twins.idle("11: none less none", SetEdgeTests::none, 0, x -> x.less(LINKED, 0));
        Twins.idle("11: none less all", () -> all(0), 0, x -> x.less(LINKED, 0));
        Twins.idle("11: one less none", () -> one(LINKED), 0, x -> x.less(LINKED, 0));
        Twins.idle("11: all less none", () -> all(PLAIN), 0, x -> x.less(PLAIN, 0));
        Twins.same("11: one less all", () -> allAndOne(PLAIN, LINKED), 1, x -> x.less(LINKED, PLAIN),
                x -> x.clear(LINKED));
        Twins.same("11: all less one", () -> allAndOne(PLAIN, LINKED), 1, x -> x.less(PLAIN, LINKED),
                x -> x.drop(PLAIN, 7));
        Twins.same("11: all less all", SetEdgeTests::allOfAll, 1, x -> x.less(PLAIN, LINKED), x -> x.clear(PLAIN));
    }

    private static void common() {
        Twins.idle("12: common of none and none", SetEdgeTests::none, 0, x -> x.common(LINKED, 0));
        Twins.idle("12: common of none and all", () -> all(0), 0, x -> x.common(LINKED, 0));
        Twins.idle("12: common of one and all", () -> allAndOne(PLAIN, LINKED), 0, x -> x.common(LINKED, PLAIN));
        Twins.idle("12: common of all and all", SetEdgeTests::allOfAll, 0, x -> x.common(LINKED, PLAIN));
        Twins.same("12: common of one and none", () -> one(LINKED), 1, x -> x.common(LINKED, 0), x -> x.clear(LINKED));
        Twins.same("12: common of all and none", () -> all(PLAIN), 1, x -> x.common(PLAIN, 0), x -> x.clear(PLAIN));
        Setsalike x = allAndOne(PLAIN, LINKED);
        Checks.due("12: common of all and one", 1, x.common(PLAIN, LINKED));
        Checks.due("12: the one is left, with its own MARK", "7.7", x.text(PLAIN));
    }

    private static void copy() {
        Twins.idle("13: copy of none to none", SetEdgeTests::none, 0, x -> x.copy(LINKED, 0));
        Twins.idle("13: copy of all to all", SetEdgeTests::allOfAll, 30, x -> x.copy(LINKED, 0));
        Twins.same("13: copy of none to one", () -> one(LINKED), 0, x -> x.copy(LINKED, 0), x -> x.clear(LINKED));
        Twins.same("13: copy of none to all", () -> all(PLAIN), 0, x -> x.copy(PLAIN, 0), x -> x.clear(PLAIN));
        Setsalike x = allAndOne(LINKED, 0);
        Checks.due("13: copy of all to one", 30, x.copy(0, LINKED));
        Checks.due("13: with its SEQUENCE and MARKS", x.text(LINKED), x.text(0));
        Checks.due("13: copy of all to none", 30, x.copy(PLAIN, LINKED));
        Checks.due("13: by rising KEYS", all(PLAIN).text(PLAIN), x.text(PLAIN));
        x = allAndOne(LINKED, 0);
        Checks.due("13: copy of one to all", 1, x.copy(LINKED, 0));
        Checks.due("13: the one alone, with its MARK", "7.3", x.text(LINKED));
        Checks.due("13: no THING came by it", 31, x.house(3));
    }

    private static void swap() {
        Twins.idle("14: swap of none and none", SetEdgeTests::none, 0, x -> x.swap(LINKED, 0));
        Twins.idle("14: swap of all and all", SetEdgeTests::allOfAll, 60, x -> x.swap(PLAIN, 3));
        Setsalike x = allAndOne(LINKED, 0);
        Checks.due("14: swap of all and one", 31, x.swap(LINKED, 0));
        Checks.due("14: the one", "7.3", x.text(LINKED));
        Checks.due("14: all in their SEQUENCE", all(LINKED).text(LINKED), x.text(0));
        Checks.due("14: swap of none and one", 1, x.swap(2, LINKED));
        Checks.due("14: none", "", x.text(LINKED));
        Checks.due("14: the one again", "7.3", x.text(2));
        Checks.due("14: swap of all and none", 30, x.swap(0, LINKED));
        Checks.due("14: all again", all(LINKED).text(LINKED), x.text(LINKED));
        Checks.due("14: none again", "", x.text(0));
    }

    /** SET 0 has none, 1 one, 2 all, and so 3, 4 and 5. */
    private static void compare() {
        Setsalike x = new Setsalike();
        x.put(1, 7, 3);
        x.put(4, 7, 9);
        fillAll(x, 2);
        fillAll(x, 5);
        for (int set = 0; set < 6; set++) {
            for (int other = 0; other < 6; other++) {
                int amount = set % 3;
                int otherAmount = other % 3;
                String which = " of " + set + " and " + other;
                Checks.due("25: isAlike" + which, amount == otherAmount, x.isAlike(set, other));
                Checks.due("26: holds" + which, amount >= otherAmount, x.holds(set, other));
                Checks.due("28: isApart" + which, amount == 0 || otherAmount == 0, x.isApart(set, other));
            }
        }
    }

    /** One that goes and comes again is the last one then; one that is put again stays where it is. */
    private static void sequence() {
        Setsalike x = Checks.with(LINKED, 8, 3, 5);
        x.put(LINKED, 8, 0);
        Checks.due("19: put again it stays, with its MARK", "8.8 3.3 5.5", x.text(LINKED));
        x.drop(LINKED, 8);
        x.put(LINKED, 8, 0);
        Checks.due("19: gone and come again it is the last one", "3.3 5.5 8.0", x.text(LINKED));
        Checks.due("24: at", 2, x.at(LINKED, 8));
        Setsalike y = all(LINKED);
        y.drop(LINKED, 29);
        y.put(LINKED, 29, 0);
        Checks.due("23: first of all then", 28, y.first(LINKED));
        Checks.due("24: at of all then", 29, y.at(LINKED, 29));
    }
}

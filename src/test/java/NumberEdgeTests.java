/** Promise by promise the first and the last number that a call takes, and what is just outside, which it refuses. */
public final class NumberEdgeTests {
    public static void main(String[] args) {
        comeAndGo();
        conditions();
        theRow();
        twoSets();
        copyAndSwap();
        asked();
        askedOfTwo();
        onlyLinked();
        looks();
        walks();
        family();
        house();
        Checks.finish();
    }

    /** The call takes each number of first to last, and none beside; one that it refuses changes nothing. */
    private static void bounds(String what, int first, int last, String refusal, Twins.CallOf call) {
        takes(what, first, last, call);
        refuses(what, refusal, call, first - 1, last + 1, Integer.MIN_VALUE, Integer.MAX_VALUE);
    }

    private static void takes(String what, int first, int last, Twins.CallOf call) {
        for (int i = first; i <= last; i++) {
            final int n = i;
            Setsalike x = Twins.busy();
            String answer = Checks.tried(() -> call.on(x, n)).toString();
            Checks.due(what + " takes " + n, false, answer.startsWith("throws"));
        }
    }

    private static void refuses(String what, String refusal, Twins.CallOf call, int... numbers) {
        for (int n : numbers) {
            Twins.idle(what + " " + n, Twins::busy, refusal, x -> call.on(x, n));
        }
    }

    private static void set(String what, Twins.CallOf call) {
        bounds(what + ", SET", 0, 5, Twins.INDEX, call);
    }

    private static void key(String what, Twins.CallOf call) {
        bounds(what + ", KEY", 0, 29, Twins.ARGUMENT, call);
    }

    private static void mark(String what, Twins.CallOf call) {
        bounds(what + ", MARK", 0, 9, Twins.ARGUMENT, call);
    }

    private static void walk(String what, Twins.CallOf call) {
        bounds(what + ", WALK", 0, 1, Twins.INDEX, call);
    }

    private static void what(String what, int last, Twins.CallOf call) {
        bounds(what + ", what", 0, last, Twins.ARGUMENT, call);
    }

    private static void number(String what, Twins.CallOf call) {
        bounds(what + ", n", 0, 29, Twins.ARGUMENT, call);
    }

    private static void comeAndGo() {
        set("2: put", (x, n) -> x.put(n, 7, 3));
        key("2: put", (x, n) -> x.put(0, n, 3));
        key("2: put into a PLAIN one", (x, n) -> x.put(3, n, 3));
        mark("2: put", (x, n) -> x.put(0, 7, n));
        mark("2: put of one that is there", (x, n) -> x.put(0, 8, n));
        set("3: drop", (x, n) -> x.drop(n, 5));
        key("3: drop", (x, n) -> x.drop(1, n));
        set("4: clear", (x, n) -> x.clear(n));
        set("9: putRow", (x, n) -> x.putRow(n));
    }

    private static void conditions() {
        set("5: dropIf", (x, n) -> x.dropIf(n, 0, 29));
        what("5: dropIf", 3, (x, n) -> x.dropIf(0, n, 0));
        set("6: pick", (x, n) -> x.pick(n, 0, 29));
        what("6: pick", 3, (x, n) -> x.pick(0, n, 0));
        set("22: many", (x, n) -> x.many(n, 0, 29));
        what("22: many", 3, (x, n) -> x.many(0, n, 0));
        for (int i = 0; i < 4; i++) {
            final int w = i;
            number("5: dropIf of " + w, (x, n) -> x.dropIf(0, w, n));
            number("6: pick of " + w, (x, n) -> x.pick(0, w, n));
            number("22: many of " + w, (x, n) -> x.many(0, w, n));
        }
        number("5: dropIf of an empty one", (x, n) -> x.dropIf(2, 3, n));
        number("6: pick of an empty one", (x, n) -> x.pick(2, 3, n));
        number("22: many of an empty one", (x, n) -> x.many(2, 3, n));
    }

    private static void theRow() {
        key("7: row", (x, n) -> x.row(n, 3));
        mark("7: row", (x, n) -> x.row(7, n));
    }

    private static void twoSets() {
        set("10: join", (x, n) -> x.join(n, n == 0 ? 1 : 0));
        set("10: join, the other", (x, n) -> x.join(n == 5 ? 4 : 5, n));
        set("11: less", (x, n) -> x.less(n, n == 0 ? 5 : 0));
        set("11: less, the other", (x, n) -> x.less(n == 0 ? 5 : 0, n));
        set("12: common", (x, n) -> x.common(n, n == 0 ? 5 : 0));
        set("12: common, the other", (x, n) -> x.common(n == 0 ? 5 : 0, n));
        refuses("10: join, both are", Twins.ARGUMENT, (x, n) -> x.join(n, n), 0, 1, 2, 3, 4, 5);
        refuses("11: less, both are", Twins.ARGUMENT, (x, n) -> x.less(n, n), 0, 1, 2, 3, 4, 5);
        refuses("12: common, both are", Twins.ARGUMENT, (x, n) -> x.common(n, n), 0, 1, 2, 3, 4, 5);
        for (int i = 0; i < 3; i++) {
            final int linked = i;
            refuses("10: join, LINKED and PLAIN", Twins.STATE, (x, n) -> x.join(linked, n), 3, 4, 5);
        }
    }

    private static void copyAndSwap() {
        set("13: copy", (x, n) -> x.copy(n, n == 0 ? 1 : 0));
        set("13: copy, the other", (x, n) -> x.copy(n == 5 ? 4 : 5, n));
        set("14: swap", (x, n) -> x.swap(n, ofItsKind(n)));
        set("14: swap, the other", (x, n) -> x.swap(ofItsKind(n), n));
        refuses("13: copy, both are", Twins.ARGUMENT, (x, n) -> x.copy(n, n), 0, 1, 2, 3, 4, 5);
        refuses("14: swap, both are", Twins.ARGUMENT, (x, n) -> x.swap(n, n), 0, 1, 2, 3, 4, 5);
        for (int i = 0; i < 3; i++) {
            final int linked = i;
            refuses("13: copy, LINKED and PLAIN", Twins.STATE, (x, n) -> x.copy(linked, n), 3, 4, 5);
            refuses("14: swap, LINKED and PLAIN", Twins.STATE, (x, n) -> x.swap(linked, n), 3, 4, 5);
            refuses("14: swap, PLAIN and LINKED", Twins.STATE, (x, n) -> x.swap(n, linked), 3, 4, 5);
        }
    }

    private static int ofItsKind(int set) {
        return set < 3 ? (set == 0 ? 1 : 0) : (set == 3 ? 4 : 3);
    }

    private static void asked() {
        set("15: has", (x, n) -> x.has(n, 5));
        key("15: has", (x, n) -> x.has(0, n));
        set("16: size", (x, n) -> x.size(n));
        set("17: isEmpty", (x, n) -> x.isEmpty(n));
        set("18: mark", (x, n) -> x.mark(n, 5));
        key("18: mark", (x, n) -> x.mark(0, n));
        set("19: text", (x, n) -> x.text(n));
        set("20: hash", (x, n) -> x.hash(n));
        set("21: sum", (x, n) -> x.sum(n));
        set("27: holdsRow", (x, n) -> x.holdsRow(n));
        set("29: often", (x, n) -> x.often(n, 5));
        key("29: often", (x, n) -> x.often(0, n));
        set("31: withNothing", (x, n) -> x.withNothing(n, 0));
        what("31: withNothing", 3, (x, n) -> x.withNothing(0, n));
    }

    private static void askedOfTwo() {
        set("25: isAlike", (x, n) -> x.isAlike(n, 0));
        set("25: isAlike, the other", (x, n) -> x.isAlike(0, n));
        set("25: isAlike, both", (x, n) -> x.isAlike(n, n));
        set("26: holds", (x, n) -> x.holds(n, 0));
        set("26: holds, the other", (x, n) -> x.holds(0, n));
        set("26: holds, both", (x, n) -> x.holds(n, n));
        set("28: isApart", (x, n) -> x.isApart(n, 0));
        set("28: isApart, the other", (x, n) -> x.isApart(0, n));
        set("28: isApart, both", (x, n) -> x.isApart(n, n));
    }

    private static void onlyLinked() {
        takes("23: first, SET", 0, 2, (x, n) -> x.first(n));
        refuses("23: first, PLAIN", Twins.STATE, (x, n) -> x.first(n), 3, 4, 5);
        refuses("23: first, SET", Twins.INDEX, (x, n) -> x.first(n), -1, 6, Integer.MIN_VALUE, Integer.MAX_VALUE);
        takes("24: at, SET", 0, 2, (x, n) -> x.at(n, 5));
        refuses("24: at, PLAIN", Twins.STATE, (x, n) -> x.at(n, 5), 3, 4, 5);
        refuses("24: at, SET", Twins.INDEX, (x, n) -> x.at(n, 5), -1, 6, Integer.MIN_VALUE, Integer.MAX_VALUE);
        key("24: at", (x, n) -> x.at(0, n));
        takes("35: walk, SET", 0, 2, (x, n) -> x.walk(0, n));
        refuses("35: walk, PLAIN", Twins.STATE, (x, n) -> x.walk(0, n), 3, 4, 5);
        refuses("35: walk, SET", Twins.INDEX, (x, n) -> x.walk(0, n), -1, 6, Integer.MIN_VALUE, Integer.MAX_VALUE);
    }

    private static void looks() {
        set("32: seen", (x, n) -> x.seen(n, 0));
        what("32: seen", 4, (x, n) -> x.seen(0, n));
        set("33: seenHas", (x, n) -> x.seenHas(n, 5));
        key("33: seenHas", (x, n) -> x.seenHas(0, n));
        set("34: meddle", (x, n) -> x.meddle(n, 3));
        what("34: meddle", 4, (x, n) -> x.meddle(0, n));
        what("34: meddle of an empty one", 4, (x, n) -> x.meddle(2, n));
    }

    private static void walks() {
        walk("35: walk", (x, n) -> x.walk(n, 0));
        walk("36: hasNext", (x, n) -> x.hasNext(n));
        walk("37: next", (x, n) -> x.next(n));
        walk("38: takeAway", (x, n) -> x.takeAway(n));
        walk("39: rest", (x, n) -> x.rest(n));
        walk("40: ofWalk", (x, n) -> x.ofWalk(n));
    }

    private static void family() {
        set("41: bring", (x, n) -> x.bring(n));
        set("42: remove", (x, n) -> x.remove(n));
        set("43: isIn", (x, n) -> x.isIn(n));
        what("44: family", 2, (x, n) -> x.family(n));
    }

    private static void house() {
        what("45: house", 4, (x, n) -> x.house(n));
    }
}

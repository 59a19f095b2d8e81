/** Where several exceptions apply, the one that is named first is thrown; exceptions go ahead of -9. */
public final class FirstNamedTests {
    public static void main(String[] args) {
        setAheadOfNumbers();
        setAheadOfAnotherSet();
        numbersAheadOfPlain();
        walkAheadOfItsState();
        aheadOfRefusal();
        aheadOfRefusalOfWalks();
        Checks.finish();
    }

    private static void thrown(String what, String want, Twins.Call call) {
        Twins.idle(what, Twins::busy, want, call);
    }

    private static void setAheadOfNumbers() {
        for (int n : new int[] {-1, 6}) {
            thrown("2: put, SET ahead of KEY", Twins.INDEX, x -> x.put(n, 30, 3));
            thrown("2: put, SET ahead of MARK", Twins.INDEX, x -> x.put(n, 7, -1));
            thrown("2: put, SET ahead of KEY and MARK", Twins.INDEX, x -> x.put(n, -1, 10));
            thrown("3: drop, SET ahead of KEY", Twins.INDEX, x -> x.drop(n, 30));
            thrown("5: dropIf, SET ahead of what", Twins.INDEX, x -> x.dropIf(n, 4, 0));
            thrown("5: dropIf, SET ahead of n", Twins.INDEX, x -> x.dropIf(n, 0, 30));
            thrown("6: pick, SET ahead of what", Twins.INDEX, x -> x.pick(n, -1, 0));
            thrown("6: pick, SET ahead of n", Twins.INDEX, x -> x.pick(n, 0, -1));
            thrown("15: has, SET ahead of KEY", Twins.INDEX, x -> x.has(n, 30));
            thrown("18: mark, SET ahead of KEY", Twins.INDEX, x -> x.mark(n, -1));
            thrown("22: many, SET ahead of what", Twins.INDEX, x -> x.many(n, 4, 0));
            thrown("22: many, SET ahead of n", Twins.INDEX, x -> x.many(n, 0, 30));
            thrown("24: at, SET ahead of KEY", Twins.INDEX, x -> x.at(n, 30));
            thrown("29: often, SET ahead of KEY", Twins.INDEX, x -> x.often(n, -1));
            thrown("31: withNothing, SET ahead of what", Twins.INDEX, x -> x.withNothing(n, 4));
            thrown("32: seen, SET ahead of what", Twins.INDEX, x -> x.seen(n, 5));
            thrown("33: seenHas, SET ahead of KEY", Twins.INDEX, x -> x.seenHas(n, 30));
            thrown("34: meddle, SET ahead of what", Twins.INDEX, x -> x.meddle(n, -1));
        }
    }

    private static void setAheadOfAnotherSet() {
        for (int n : new int[] {-1, 6}) {
            thrown("10: join, no SET ahead of one twice", Twins.INDEX, x -> x.join(n, n));
            thrown("11: less, no SET ahead of one twice", Twins.INDEX, x -> x.less(n, n));
            thrown("12: common, no SET ahead of one twice", Twins.INDEX, x -> x.common(n, n));
            thrown("13: copy, no SET ahead of one twice", Twins.INDEX, x -> x.copy(n, n));
            thrown("14: swap, no SET ahead of one twice", Twins.INDEX, x -> x.swap(n, n));
            for (int set = 0; set < 6; set++) {
                final int s = set;
                thrown("10: join, no SET whatever the kind", Twins.INDEX, x -> x.join(s, n));
                thrown("10: join, no SET whatever the kind", Twins.INDEX, x -> x.join(n, s));
                thrown("13: copy, no SET whatever the kind", Twins.INDEX, x -> x.copy(s, n));
                thrown("13: copy, no SET whatever the kind", Twins.INDEX, x -> x.copy(n, s));
                thrown("14: swap, no SET whatever the kind", Twins.INDEX, x -> x.swap(s, n));
                thrown("14: swap, no SET whatever the kind", Twins.INDEX, x -> x.swap(n, s));
            }
        }
    }

    private static void numbersAheadOfPlain() {
        for (int set = 3; set < 6; set++) {
            final int plain = set;
            thrown("24: at, KEY ahead of PLAIN", Twins.ARGUMENT, x -> x.at(plain, -1));
            thrown("24: at, KEY ahead of PLAIN", Twins.ARGUMENT, x -> x.at(plain, 30));
            thrown("35: walk, WALK ahead of PLAIN", Twins.INDEX, x -> x.walk(-1, plain));
            thrown("35: walk, WALK ahead of PLAIN", Twins.INDEX, x -> x.walk(2, plain));
        }
        thrown("35: walk, neither WALK nor SET", Twins.INDEX, x -> x.walk(2, 6));
    }

    private static void walkAheadOfItsState() {
        for (int n : new int[] {-1, 2}) {
            Twins.idle("36: hasNext, WALK ahead of its state", Twins::atRest, Twins.INDEX, x -> x.hasNext(n));
            Twins.idle("37: next, WALK ahead of its state", Twins::atRest, Twins.INDEX, x -> x.next(n));
            Twins.idle("38: takeAway, WALK ahead of its state", Twins::atRest, Twins.INDEX, x -> x.takeAway(n));
            Twins.idle("39: rest, WALK ahead of its state", Twins::atRest, Twins.INDEX, x -> x.rest(n));
        }
    }

    private static void aheadOfRefusal() {
        for (int n : new int[] {-1, 30}) {
            Twins.idle("7: row, KEY ahead of -9", Twins::fullRow, Twins.ARGUMENT, x -> x.row(n, 3));
        }
        for (int n : new int[] {-1, 10}) {
            Twins.idle("7: row, MARK ahead of -9", Twins::fullRow, Twins.ARGUMENT, x -> x.row(7, n));
        }
        for (int n : new int[] {-1, 6}) {
            thrown("23: first, SET ahead of -9", Twins.INDEX, x -> x.first(n));
            thrown("31: withNothing, SET ahead of -9", Twins.INDEX, x -> x.withNothing(n, 0));
            thrown("34: meddle, SET ahead of -9", Twins.INDEX, x -> x.meddle(n, 0));
            Twins.idle("41: bring, SET ahead of -9", Twins::fullFamily, Twins.INDEX, x -> x.bring(n));
        }
        thrown("23: first, an empty PLAIN one ahead of -9", Twins.STATE, x -> x.first(5));
        thrown("31: withNothing, what ahead of -9", Twins.ARGUMENT, x -> x.withNothing(0, 4));
        thrown("34: meddle, what ahead of -9", Twins.ARGUMENT, x -> x.meddle(0, 5));
        thrown("34: meddle, what ahead of 0", Twins.ARGUMENT, x -> x.meddle(2, 5));
    }

    private static void aheadOfRefusalOfWalks() {
        Twins.idle("37: next, not under way ahead of -9", Setsalike::new, Twins.STATE, x -> x.next(0));
        Twins.idle("38: takeAway, not under way ahead of -9", Setsalike::new, Twins.STATE, x -> x.takeAway(0));
        Twins.idle("37: next, its end ahead of -9", Twins::atRest, Twins.STATE, x -> x.next(1));
        Twins.idle("38: takeAway, its end ahead of -9", Twins::atRest, Twins.STATE, x -> x.takeAway(1));
    }
}

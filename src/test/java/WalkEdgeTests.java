/** A WALK ahead of the first THING, behind the last one, and one that has ended in each way there is. */
public final class WalkEdgeTests {
    /** How many THINGS WALK 0 has given: none, some, all. */
    private static final int[] STANDS = {0, 1, 3};

    public static void main(String[] args) {
        begins();
        aheadOfFirst();
        behindLast();
        afterTakeAway();
        takeAwayOfAll();
        for (int given : STANDS) {
            endsByOneCall(given);
            endsByCallOfTwo(given);
            endsWithoutChange(given);
            goesOnByIdleCalls(given);
            goesOnByIdleCallsOfTwo(given);
            goesOnByRefusedCalls(given);
            goesOnByOtherSets(given);
            goesOnByAnotherWalk(given);
        }
        neverUnderWay();
        Checks.finish();
    }

    /** WALK 0 over SET 0 has given so many of its three; SET 1 has a KEY of them, SET 2 none, SET 3 all. */
    private static Setsalike walked(int given) {
        Setsalike x = Checks.with(0, 8, 3, 5);
        Checks.fill(x, 1, 3, 2);
        Checks.fill(x, 3, 8, 3, 5);
        Checks.fill(x, 4, 20);
        x.row(11, 2);
        x.walk(0, 0);
        for (int i = 0; i < given; i++) {
            x.next(0);
        }
        return x;
    }

    private static void ended(String what, int given, Twins.Call call) {
        Setsalike x = walked(given);
        call.on(x);
        hasEnded(what + " behind " + given, x);
    }

    /** A WALK that is not under way takes nothing but walk() and ofWalk(). */
    private static void hasEnded(String what, Setsalike x) {
        Checks.due("40: ofWalk, ended by " + what, -1, x.ofWalk(0));
        Checks.due("45: none is under way, ended by " + what, 0, x.house(2));
        String before = Checks.state(x);
        Checks.notNow("36: hasNext, ended by " + what, () -> x.hasNext(0));
        Checks.notNow("37: next, ended by " + what, () -> x.next(0));
        Checks.notNow("38: takeAway, ended by " + what, () -> x.takeAway(0));
        Checks.notNow("39: rest, ended by " + what, () -> x.rest(0));
        Checks.due("the state after " + what, before, Checks.state(x));
        Checks.due("48: digest, ended by " + what, Checks.digestOf(x), x.digest());
        Checks.due("35: walk anew, ended by " + what, x.size(0), x.walk(0, 0));
        Checks.due("38: it has given none yet", -9, x.takeAway(0));
        Checks.due("37: it is ahead of the first one", x.first(0), x.next(0));
    }

    private static void goesOn(String what, int given, Twins.Call call) {
        Twins.idle("35: the WALK goes on by " + what + " behind " + given, () -> walked(given), "none", x -> {
            call.on(x);
            Checks.due("40: ofWalk, after " + what + " behind " + given, 0, x.ofWalk(0));
            return "none";
        });
    }

    private static void begins() {
        Setsalike x = walked(0);
        Checks.due("35: walk over some", 3, x.walk(1, 0));
        Checks.due("35: walk over none", 0, x.walk(1, 2));
        Checks.due("40: ofWalk", 2, x.ofWalk(1));
        Checks.due("35: a WALK under way begins anew", 3, x.walk(0, 0));
        x.next(0);
        Checks.due("35: and anew, over the same SET", 3, x.walk(0, 0));
        Checks.due("38: what it gave ahead of that is forgotten", -9, x.takeAway(0));
        Checks.due("35: it is ahead of the first one", 8, x.next(0));
        Checks.due("35: behind which is the next one", 3, x.next(0));
        Checks.due("35: over another SET, that has it too", 2, x.walk(0, 1));
        Checks.due("38: what it gave of that SET is forgotten", -9, x.takeAway(0));
        Checks.due("38: neither SET changes", "8.8 3.3 5.5 3.3 2.2", x.text(0) + " " + x.text(1));
        Checks.due("45: both are under way", 2, x.house(2));
        Twins.idle("35: a PLAIN SET ends no WALK", () -> walked(1), Twins.STATE, y -> y.walk(0, 4));
        Twins.idle("35: no SET ends no WALK", () -> walked(1), Twins.INDEX, y -> y.walk(0, 6));
    }

    private static void aheadOfFirst() {
        Twins.idle("36: hasNext ahead of the first one", () -> walked(0), true, x -> x.hasNext(0));
        Twins.idle("38: takeAway ahead of the first one", () -> walked(0), -9, x -> x.takeAway(0));
        Twins.idle("40: ofWalk ahead of the first one", () -> walked(0), 0, x -> x.ofWalk(0));
        Checks.due("37: next ahead of the first one", 8, walked(0).next(0));
        Checks.due("39: rest ahead of the first one", 16, walked(0).rest(0));
        Setsalike x = new Setsalike();
        x.walk(1, 2);
        Checks.due("36: hasNext of none", false, x.hasNext(1));
        Checks.due("38: takeAway of none", -9, x.takeAway(1));
        Checks.due("40: ofWalk of none", 2, x.ofWalk(1));
        Checks.due("37: next of none", -9, x.next(1));
        Checks.due("40: it ended", -1, x.ofWalk(1));
        x.walk(1, 2);
        Checks.due("39: rest of none", 0, x.rest(1));
        Checks.due("40: it ended", -1, x.ofWalk(1));
    }

    private static void behindLast() {
        Twins.idle("36: hasNext behind the last one", () -> walked(3), false, x -> x.hasNext(0));
        Twins.idle("40: ofWalk behind the last one", () -> walked(3), 0, x -> x.ofWalk(0));
        Twins.same("37: next behind the last one", () -> walked(3), -9, x -> x.next(0), x -> x.rest(0));
        Twins.same("39: rest behind the last one", () -> walked(3), 0, x -> x.rest(0), x -> x.next(0));
        ended("next() behind the last one", 3, x -> x.next(0));
        for (int given : STANDS) {
            ended("rest()", given, x -> x.rest(0));
        }
        Setsalike x = walked(3);
        Checks.due("38: takeAway behind the last one", 5, x.takeAway(0));
        Checks.due("38: it is under way still", 0, x.ofWalk(0));
        Checks.due("36: hasNext then", false, x.hasNext(0));
        Checks.due("38: it went already", -9, x.takeAway(0));
        Checks.due("37: next then", -9, x.next(0));
        hasEnded("next() behind one that was taken away", x);
    }

    private static void afterTakeAway() {
        Setsalike x = walked(1);
        Checks.due("38: takeAway of the first one", 8, x.takeAway(0));
        Checks.due("38: it went from the SET", "3.3 5.5", x.text(0));
        Checks.due("38: it was taken away by this WALK", -9, x.takeAway(0));
        Checks.due("36: hasNext", true, x.hasNext(0));
        Checks.due("37: none is left out", 3, x.next(0));
        Checks.due("38: takeAway of the next one", 3, x.takeAway(0));
        Checks.due("39: rest", 5, x.rest(0));
        Checks.due("38: what was not taken away stays", "5.5", x.text(0));
        Setsalike y = walked(2);
        y.walk(1, 0);
        Checks.due("38: takeAway with another WALK over the SET", 3, y.takeAway(0));
        Checks.due("38: the other one ends", -1, y.ofWalk(1));
        Checks.due("38: this one does not", 0, y.ofWalk(0));
        Checks.due("38: and goes on", 5, y.next(0));
        Setsalike z = walked(2);
        z.walk(1, 1);
        z.takeAway(0);
        Checks.due("38: one over another SET goes on", 1, z.ofWalk(1));
    }

    private static void takeAwayOfAll() {
        Setsalike x = new Setsalike();
        for (int key = 29; key >= 0; key--) {
            x.put(2, key, 1);
        }
        Checks.due("35: walk over all", 30, x.walk(1, 2));
        for (int key = 29; key >= 0; key--) {
            Checks.due("36: hasNext of all", true, x.hasNext(1));
            Checks.due("37: next of all", key, x.next(1));
            Checks.due("38: takeAway of all", key, x.takeAway(1));
        }
        Checks.due("36: hasNext behind all", false, x.hasNext(1));
        Checks.due("38: none is left", "", x.text(2));
        Checks.due("38: it is under way still", 2, x.ofWalk(1));
        Checks.due("37: next behind all", -9, x.next(1));
        Checks.due("40: it ended", -1, x.ofWalk(1));
        for (int key = 29; key >= 0; key--) {
            x.put(2, key, 1);
        }
        x.walk(0, 2);
        Checks.due("39: rest of all", 435, x.rest(0));
    }

    private static void endsByOneCall(int given) {
        ended("put()", given, x -> x.put(0, 29, 0));
        ended("drop() of the first one", given, x -> x.drop(0, 8));
        ended("drop() of the last one", given, x -> x.drop(0, 5));
        ended("clear()", given, x -> x.clear(0));
        ended("dropIf()", given, x -> x.dropIf(0, 0, 4));
        ended("pick()", given, x -> x.pick(0, 0, 4));
        ended("putRow()", given, x -> x.putRow(0));
    }

    private static void endsByCallOfTwo(int given) {
        ended("join()", given, x -> x.join(0, 1));
        ended("less()", given, x -> x.less(0, 1));
        ended("less() of a PLAIN one", given, x -> x.less(0, 3));
        ended("common()", given, x -> x.common(0, 1));
        ended("common() with none", given, x -> x.common(0, 2));
        ended("copy() to it", given, x -> x.copy(0, 1));
        ended("copy() of none to it", given, x -> x.copy(0, 2));
        ended("swap()", given, x -> x.swap(0, 1));
        ended("swap() the other way round", given, x -> x.swap(1, 0));
        ended("swap() with none", given, x -> x.swap(0, 2));
        Setsalike y = walked(given);
        y.walk(1, 0);
        y.next(1);
        y.takeAway(1);
        Checks.due("38: the other WALK is under way", 0, y.ofWalk(1));
        y.rest(1);
        hasEnded("takeAway() of the other WALK behind " + given, y);
    }

    /** clear(), swap() and copy() end the WALK whether the SET changes or not. */
    private static void endsWithoutChange(int given) {
        ended("copy() of the same", given, x -> {
            x.copy(2, 0);
            return x.copy(0, 2);
        });
        ended("swap() with the same", given, x -> {
            x.copy(2, 0);
            return x.swap(0, 2);
        });
        ended("swap() with the same, the other way round", given, x -> {
            x.copy(2, 0);
            return x.swap(2, 0);
        });
        Twins.Recipe empty = () -> {
            Setsalike x = new Setsalike();
            x.walk(0, 0);
            return x;
        };
        Twins.same("4: clear() of none", empty, 0, x -> x.clear(0), x -> x.rest(0));
        Twins.same("13: copy() of none to none", empty, 0, x -> x.copy(0, 1), x -> x.rest(0));
        Twins.same("14: swap() of none and none", empty, 0, x -> x.swap(0, 1), x -> x.rest(0));
        Twins.same("14: swap() of none and none", empty, 0, x -> x.swap(1, 0), x -> x.rest(0));
    }

    private static void goesOnByIdleCalls(int given) {
        goesOn("put() of one that is there", given, x -> x.put(0, 5, 0));
        goesOn("drop() of one that is not there", given, x -> x.drop(0, 29));
        goesOn("dropIf() that is so of none", given, x -> x.dropIf(0, 0, 3));
        goesOn("pick() that is so of none", given, x -> x.pick(0, 0, 3));
        goesOn("hasNext()", given, x -> x.hasNext(0));
        goesOn("isSound()", given, x -> x.isSound());
        goesOn("digest()", given, x -> x.digest());
        for (int what = 0; what < 4; what++) {
            final int w = what;
            goesOn("withNothing()", given, x -> x.withNothing(0, w));
            goesOn("many()", given, x -> x.many(0, w, 2));
        }
        for (int what = 0; what < 5; what++) {
            final int w = what;
            goesOn("seen()", given, x -> x.seen(0, w));
            goesOn("meddle()", given, x -> x.meddle(0, w));
        }
        Setsalike x = walked(given);
        x.clearRow();
        x.row(5, 0);
        x.knock();
        x.putRow(0);
        x.bring(0);
        x.remove(0);
        Checks.due("35: the ROW, the FAMILY and a knock end no WALK", 0, x.ofWalk(0));
        Checks.due("39: which is where it was", new int[] {16, 8, 5, 0}[given], x.rest(0));
    }

    private static void goesOnByIdleCallsOfTwo(int given) {
        goesOn("join() of none", given, x -> x.join(0, 2));
        goesOn("less() of none", given, x -> x.less(0, 2));
        goesOn("less() of others", given, x -> x.less(0, 4));
        goesOn("common() of the same", given, x -> x.common(0, 3));
        goesOn("isAlike()", given, x -> x.isAlike(0, 3));
        goesOn("holds()", given, x -> x.holds(0, 1));
        goesOn("isApart()", given, x -> x.isApart(0, 2));
    }

    private static void goesOnByRefusedCalls(int given) {
        goesOn("put() of no KEY", given, x -> Checks.tried(() -> x.put(0, 30, 0)));
        goesOn("put() of no MARK", given, x -> Checks.tried(() -> x.put(0, 29, 10)));
        goesOn("drop() of no KEY", given, x -> Checks.tried(() -> x.drop(0, -1)));
        goesOn("clear() of no SET", given, x -> Checks.tried(() -> x.clear(-1)));
        goesOn("dropIf() of no CONDITION", given, x -> Checks.tried(() -> x.dropIf(0, 4, 29)));
        goesOn("pick() with no number", given, x -> Checks.tried(() -> x.pick(0, 0, 30)));
        goesOn("join() with itself", given, x -> Checks.tried(() -> x.join(0, 0)));
        goesOn("join() with a PLAIN one", given, x -> Checks.tried(() -> x.join(0, 4)));
        goesOn("less() of itself", given, x -> Checks.tried(() -> x.less(0, 0)));
        goesOn("common() with itself", given, x -> Checks.tried(() -> x.common(0, 0)));
        goesOn("copy() of itself", given, x -> Checks.tried(() -> x.copy(0, 0)));
        goesOn("copy() of a PLAIN one", given, x -> Checks.tried(() -> x.copy(0, 4)));
        goesOn("copy() of no SET", given, x -> Checks.tried(() -> x.copy(0, 6)));
        goesOn("swap() with itself", given, x -> Checks.tried(() -> x.swap(0, 0)));
        goesOn("swap() with a PLAIN one", given, x -> Checks.tried(() -> x.swap(0, 4)));
        goesOn("swap() with no SET", given, x -> Checks.tried(() -> x.swap(0, 6)));
        goesOn("walk() over a PLAIN one", given, x -> Checks.tried(() -> x.walk(0, 3)));
    }

    private static void goesOnByOtherSets(int given) {
        elsewhere("put()", given, x -> x.put(1, 29, 0));
        elsewhere("drop()", given, x -> x.drop(1, 3));
        elsewhere("clear()", given, x -> x.clear(1));
        elsewhere("dropIf()", given, x -> x.dropIf(1, 0, 29));
        elsewhere("pick()", given, x -> x.pick(1, 0, 29));
        elsewhere("putRow()", given, x -> x.putRow(1));
        elsewhere("join() to another", given, x -> x.join(1, 0));
        elsewhere("less() of another", given, x -> x.less(1, 0));
        elsewhere("common() of another", given, x -> x.common(1, 0));
        elsewhere("copy() to another", given, x -> x.copy(1, 0));
        elsewhere("copy() to a PLAIN one", given, x -> x.copy(4, 0));
        elsewhere("swap() of others", given, x -> x.swap(1, 2));
        elsewhere("swap() of PLAIN ones", given, x -> x.swap(3, 4));
    }

    /** The WALK is under way, its SET is as it was, and it gives and takes away what is due. */
    private static void elsewhere(String what, int given, Twins.Call call) {
        String which = what + " elsewhere, behind " + given;
        Setsalike x = walked(given);
        call.on(x);
        Checks.due("40: ofWalk, after " + which, 0, x.ofWalk(0));
        Checks.due("19: text, after " + which, "8.8 3.3 5.5", x.text(0));
        Checks.due("38: takeAway, after " + which, new int[] {-9, 8, 3, 5}[given], x.takeAway(0));
        Checks.due("39: rest, after " + which, new int[] {16, 8, 5, 0}[given], x.rest(0));
    }

    private static void goesOnByAnotherWalk(int given) {
        elsewhere("walk()", given, x -> x.walk(1, 0));
        elsewhere("next()", given, x -> {
            x.walk(1, 0);
            return x.next(1);
        });
        elsewhere("takeAway() of none", given, x -> {
            x.walk(1, 0);
            return x.takeAway(1);
        });
        elsewhere("rest()", given, x -> {
            x.walk(1, 0);
            return x.rest(1);
        });
        elsewhere("takeAway()", given, x -> {
            x.walk(1, 1);
            x.next(1);
            return x.takeAway(1);
        });
    }

    private static void neverUnderWay() {
        Setsalike x = new Setsalike();
        Checks.due("40: ofWalk, at first", -1, x.ofWalk(1));
        hasEnded("nothing at all", withSome());
        Checks.due("35: walk over an empty SET", 0, x.walk(0, 0));
        Checks.due("45: one is under way", 1, x.house(2));
        x.walk(1, 0);
        Checks.due("45: two are under way", 2, x.house(2));
        x.put(0, 1, 1);
        Checks.due("45: both ended", 0, x.house(2));
    }

    private static Setsalike withSome() {
        return Checks.with(0, 8, 3, 5);
    }
}

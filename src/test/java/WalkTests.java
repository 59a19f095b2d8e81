/** Promises 35 to 40: walks. */
public final class WalkTests {
    public static void main(String[] args) {
        walk();
        walkWrong();
        hasNext();
        next();
        takeAway();
        takeAwayOfTwo();
        rest();
        ofWalk();
        idleCallsKeepWalks();
        notUnderWay();
        Checks.finish();
    }

    private static void walk() {
        Setsalike x = Checks.with(0, 5, 1, 9);
        Checks.due("35: walk", 3, x.walk(0, 0));
        Checks.due("35: ahead of the first one", 5, x.next(0));
        Checks.due("35: walk anew", 3, x.walk(0, 0));
        Checks.due("35: nothing was given yet", -9, x.takeAway(0));
        Checks.due("35: ahead of the first one", 5, x.next(0));
        Checks.due("35: walk over another one", 0, x.walk(0, 2));
        Checks.due("35: its SET", 2, x.ofWalk(0));
        Checks.due("35: one is under way", 1, x.house(2));
        Checks.due("35: the other WALK", 3, x.walk(1, 0));
        Checks.due("35: two are under way", 2, x.house(2));
    }

    private static void walkWrong() {
        Setsalike x = Checks.with(0, 5, 1, 9);
        x.walk(0, 0);
        x.next(0);
        Checks.idle(x, "35: no WALK", "throws IndexOutOfBoundsException", () -> x.walk(-1, 0));
        Checks.idle(x, "35: no WALK", "throws IndexOutOfBoundsException", () -> x.walk(2, 3));
        Checks.idle(x, "35: no SET", "throws IndexOutOfBoundsException", () -> x.walk(0, -1));
        Checks.idle(x, "35: no SET", "throws IndexOutOfBoundsException", () -> x.walk(0, 6));
        for (int set = 3; set < 6; set++) {
            final int s = set;
            Checks.idle(x, "35: PLAIN", "throws IllegalStateException", () -> x.walk(0, s));
        }
        Checks.due("35: it goes on where it was", 1, x.next(0));
    }

    private static void hasNext() {
        Setsalike x = Checks.with(1, 5, 1);
        x.walk(0, 1);
        Checks.due("36: hasNext", true, x.hasNext(0));
        x.next(0);
        Checks.due("36: hasNext", true, x.hasNext(0));
        x.next(0);
        Checks.due("36: hasNext", false, x.hasNext(0));
        Checks.due("36: it is under way still", 1, x.ofWalk(0));
        x.walk(1, 0);
        Checks.due("36: of an empty one", false, x.hasNext(1));
    }

    private static void next() {
        Setsalike x = Checks.with(2, 5, 29, 0);
        x.walk(1, 2);
        Checks.due("37: next", 5, x.next(1));
        Checks.due("37: next", 29, x.next(1));
        Checks.due("37: next", 0, x.next(1));
        Checks.due("37: under way still", 2, x.ofWalk(1));
        Checks.due("37: behind the last one", -9, x.next(1));
        Checks.due("37: it ended", -1, x.ofWalk(1));
        Checks.notNow("37: next", () -> x.next(1));
        x.walk(0, 0);
        Checks.due("37: of an empty one", -9, x.next(0));
        Checks.due("37: it ended", -1, x.ofWalk(0));
        x.walk(0, 2);
        x.walk(1, 2);
        x.next(0);
        x.next(0);
        Checks.due("37: two walks go on their own", 5, x.next(1));
        Checks.due("37: two walks go on their own", 0, x.next(0));
    }

    private static void takeAway() {
        Setsalike x = Checks.with(2, 5, 29, 0, 7);
        x.walk(0, 2);
        Checks.idle(x, "38: none was given", -9, () -> x.takeAway(0));
        x.next(0);
        Checks.due("38: takeAway", 5, x.takeAway(0));
        Checks.due("38: text", "29.9 0.0 7.7", x.text(2));
        Checks.idle(x, "38: it went already", -9, () -> x.takeAway(0));
        Checks.due("38: under way still", 2, x.ofWalk(0));
        Checks.due("38: next", 29, x.next(0));
        Checks.due("38: next", 0, x.next(0));
        Checks.due("38: takeAway", 0, x.takeAway(0));
        Checks.due("38: text", "29.9 7.7", x.text(2));
        Checks.due("38: next", 7, x.next(0));
        Checks.due("38: takeAway of the last one", 7, x.takeAway(0));
        Checks.due("38: hasNext", false, x.hasNext(0));
        Checks.due("38: behind the last one", -9, x.next(0));
        Checks.notNow("38: it ended", () -> x.takeAway(0));
        Checks.due("38: text", "29.9", x.text(2));
        Checks.due("38: comings", 4, x.house(3));
    }

    private static void takeAwayOfTwo() {
        Setsalike x = Checks.with(0, 5, 29, 0);
        Checks.fill(x, 1, 5);
        x.walk(0, 0);
        x.walk(1, 0);
        x.next(1);
        Checks.due("38: nothing goes", -9, x.takeAway(0));
        Checks.due("38: so the other one goes on", 0, x.ofWalk(1));
        Checks.due("38: takeAway", 5, x.takeAway(1));
        Checks.due("38: the other one ends", -1, x.ofWalk(0));
        Checks.due("38: this one goes on", 0, x.ofWalk(1));
        x.walk(0, 1);
        x.next(1);
        x.takeAway(1);
        Checks.due("38: that over another SET goes on", 1, x.ofWalk(0));
        Checks.due("38: which keeps its THINGS", "5.5", x.text(1));
    }

    private static void rest() {
        Setsalike x = Checks.with(0, 5, 29, 3, 7);
        x.walk(0, 0);
        Checks.due("39: rest of all", 44, x.rest(0));
        Checks.due("39: it ended", -1, x.ofWalk(0));
        Checks.notNow("39: rest", () -> x.rest(0));
        x.walk(0, 0);
        x.next(0);
        x.next(0);
        Checks.due("39: rest of two", 10, x.rest(0));
        x.walk(0, 0);
        x.next(0);
        x.takeAway(0);
        x.next(0);
        Checks.due("39: rest behind takeAway", 10, x.rest(0));
        x.walk(0, 0);
        x.next(0);
        x.next(0);
        x.next(0);
        Checks.due("39: rest of none", 0, x.rest(0));
        x.walk(0, 1);
        Checks.due("39: rest of an empty one", 0, x.rest(0));
        Checks.due("39: it ended", -1, x.ofWalk(0));
        Checks.due("39: the SET stays", "29.9 3.3 7.7", x.text(0));
    }

    private static void ofWalk() {
        Setsalike x = Checks.with(0, 5);
        Checks.due("40: ofWalk", -1, x.ofWalk(0));
        Checks.due("40: ofWalk", -1, x.ofWalk(1));
        x.walk(1, 0);
        Checks.due("40: ofWalk", -1, x.ofWalk(0));
        Checks.due("40: ofWalk", 0, x.ofWalk(1));
        Checks.noSuch("40: ofWalk", () -> x.ofWalk(-1));
        Checks.noSuch("40: ofWalk", () -> x.ofWalk(2));
    }

    private static void idleCallsKeepWalks() {
        Setsalike x = Checks.with(0, 5, 6);
        Checks.fill(x, 3, 5, 6);
        x.walk(0, 0);
        x.next(0);
        x.put(0, 5, 1);
        x.drop(0, 7);
        x.dropIf(0, 2, 9);
        x.pick(0, 2, 9);
        x.putRow(0);
        x.join(0, 1);
        x.less(0, 1);
        x.common(0, 3);
        x.copy(3, 0);
        x.bring(0);
        x.remove(0);
        x.isSound();
        x.digest();
        Checks.due("35: what changes nothing ends no walk", 6, x.next(0));
        Checks.due("38: and takes not away what was given", 6, x.takeAway(0));
    }

    private static void notUnderWay() {
        Setsalike x = Checks.with(0, 5);
        for (int walk = 0; walk < 2; walk++) {
            final int w = walk;
            Checks.idle(x, "36: hasNext", "throws IllegalStateException", () -> x.hasNext(w));
            Checks.idle(x, "37: next", "throws IllegalStateException", () -> x.next(w));
            Checks.idle(x, "38: takeAway", "throws IllegalStateException", () -> x.takeAway(w));
            Checks.idle(x, "39: rest", "throws IllegalStateException", () -> x.rest(w));
        }
        for (int walk : new int[] {-1, 2, Integer.MAX_VALUE, Integer.MIN_VALUE}) {
            Checks.noSuch("35: walk", () -> x.walk(walk, 3));
            Checks.noSuch("36: hasNext", () -> x.hasNext(walk));
            Checks.noSuch("37: next", () -> x.next(walk));
            Checks.noSuch("38: takeAway", () -> x.takeAway(walk));
            Checks.noSuch("39: rest", () -> x.rest(walk));
            Checks.noSuch("40: ofWalk", () -> x.ofWalk(walk));
        }
    }
}

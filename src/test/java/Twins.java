/**
 * Whether a call changed anything is told by a twin: the same calls made it, but that one it was spared.
 * Each look at it makes both anew, so that no object comes to more calls than the document promises.
 */
final class Twins {
    static final String INDEX = "throws IndexOutOfBoundsException";
    static final String ARGUMENT = "throws IllegalArgumentException";
    static final String STATE = "throws IllegalStateException";

    interface Recipe {
        Setsalike make();
    }

    interface Call {
        Object on(Setsalike x);
    }

    interface CallOf {
        Object on(Setsalike x, int n);
    }

    private Twins() {
    }

    /** The call answers as is due and changes nothing, nor where a WALK stands and what it gave last. */
    static void idle(String what, Recipe recipe, Object want, Call call) {
        same(what, recipe, want, call, x -> "none");
    }

    /** The call answers as is due and changes what the other one does. */
    static void same(String what, Recipe recipe, Object want, Call call, Call other) {
        for (int end = 0; end < 3; end++) {
            Setsalike x = recipe.make();
            Setsalike twin = recipe.make();
            Checks.due(what, want, Checks.tried(() -> call.on(x)));
            other.on(twin);
            Checks.due("what is there after " + what, aftermath(twin, end), aftermath(x, end));
        }
    }

    /** All that is seen, at first without changing anything, then as the WALKS are gone to their ends. */
    private static String aftermath(Setsalike x, int end) {
        StringBuilder page = new StringBuilder(Checks.state(x));
        page.append('|').append(x.digest());
        for (int i = 0; i < 2; i++) {
            final int walk = end == 0 ? i : 1 - i;
            if (end == 2) {
                page.append('|').append(Checks.tried(() -> x.rest(walk)));
            } else {
                page.append('|').append(Checks.tried(() -> x.takeAway(walk)));
            }
            for (int step = 0; step <= 30 && x.ofWalk(walk) >= 0; step++) {
                page.append('|').append(x.next(walk));
            }
        }
        return page.append('|').append(Checks.state(x)).toString();
    }

    /** Some of everything: LINKED SETS and PLAIN ones, empty ones too, the ROW, the FAMILY, both WALKS. */
    static Setsalike busy() {
        Setsalike x = Checks.with(0, 8, 3, 5);
        Checks.fill(x, 1, 9, 3, 2, 20);
        Checks.fill(x, 3, 29, 5);
        Checks.fill(x, 4, 0);
        x.row(11, 2);
        x.row(3, 0);
        x.row(11, 4);
        x.bring(0);
        x.bring(2);
        x.bring(3);
        x.knock();
        x.walk(0, 0);
        x.next(0);
        x.walk(1, 1);
        x.next(1);
        x.takeAway(1);
        return x;
    }

    /** As busy(), with 12 THINGS in the ROW. */
    static Setsalike fullRow() {
        Setsalike x = busy();
        for (int i = 0; i < 9; i++) {
            x.row(i, i);
        }
        return x;
    }

    /** As busy(), with 8 sets in the FAMILY, of which none is ALIKE to SET 4. */
    static Setsalike fullFamily() {
        Setsalike x = busy();
        x.bring(1);
        for (int key = 1; key <= 4; key++) {
            x.put(5, key, 0);
            x.bring(5);
        }
        return x;
    }

    /** As busy(), with no WALK under way. */
    static Setsalike atRest() {
        Setsalike x = busy();
        x.rest(0);
        x.rest(1);
        return x;
    }
}

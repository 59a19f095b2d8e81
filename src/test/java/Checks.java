/** Compares answers with those that are due; a test's main method ends with finish(). */
final class Checks {
    interface Call {
        Object answer();
    }

    private static int done = 0;
    private static int wrong = 0;

    private Checks() {
    }

    static void due(String what, Object want, Object got) {
        done++;
        if (!want.equals(got)) {
            wrong++;
            System.out.println(what + " answered " + got + ", due is " + want);
        }
    }

    static void dueThrow(String what, Class<? extends RuntimeException> want, Call call) {
        due(what, "throws " + want.getSimpleName(), tried(call));
    }

    static void noSuch(String what, Call call) {
        dueThrow(what, IndexOutOfBoundsException.class, call);
    }

    static void bad(String what, Call call) {
        dueThrow(what, IllegalArgumentException.class, call);
    }

    static void notNow(String what, Call call) {
        dueThrow(what, IllegalStateException.class, call);
    }

    /** For a call that throws, the text "throws " and the very class. */
    static Object tried(Call call) {
        try {
            return call.answer();
        } catch (RuntimeException e) {
            return "throws " + e.getClass().getSimpleName();
        }
    }

    static void finish() {
        System.out.println(done - wrong + " answers as due, " + wrong + " not");
        if (wrong > 0 || done == 0) {
            System.exit(1);
        }
    }

    /** A new object; each of the keys is put into the set, with the key's last digit as its mark. */
    static Setsalike with(int set, int... keys) {
        Setsalike x = new Setsalike();
        fill(x, set, keys);
        return x;
    }

    static void fill(Setsalike x, int set, int... keys) {
        for (int key : keys) {
            x.put(set, key, key % 10);
        }
    }

    /** All that can be seen without changing anything, to tell whether a call changed something. */
    static String state(Setsalike x) {
        StringBuilder page = new StringBuilder();
        for (int set = 0; set < 6; set++) {
            page.append(x.text(set)).append('|').append(x.isIn(set)).append('|');
        }
        for (int walk = 0; walk < 2; walk++) {
            page.append(x.ofWalk(walk)).append('|');
            if (x.ofWalk(walk) >= 0) {
                page.append(x.hasNext(walk)).append('|');
            }
        }
        for (int what = 0; what < 5; what++) {
            page.append(x.house(what)).append('|');
        }
        for (int what = 0; what < 3; what++) {
            page.append(x.family(what)).append('|');
        }
        return page.append(x.rowText()).toString();
    }

    /** The document's sum, made of what the face's other methods answer. */
    static long digestOf(Setsalike x) {
        long d = 7781;
        for (int what = 0; what < 5; what++) {
            d = d * 31 + x.house(what);
        }
        for (int set = 0; set < 6; set++) {
            d = d * 31 + x.size(set);
            d = d * 31 + x.hash(set);
            d = d * 31 + x.sum(set);
            d = signs(d, x.text(set));
        }
        for (int set = 0; set < 6; set++) {
            for (int other = 0; other < 6; other++) {
                d = d * 31 + (x.isAlike(set, other) ? 1 : 0);
                d = d * 31 + (x.holds(set, other) ? 1 : 0);
            }
        }
        for (int walk = 0; walk < 2; walk++) {
            d = d * 31 + x.ofWalk(walk);
        }
        for (int what = 0; what < 3; what++) {
            d = d * 31 + x.family(what);
        }
        for (int set = 0; set < 6; set++) {
            d = d * 31 + (x.isIn(set) ? 1 : 0);
        }
        d = signs(d, x.rowText());
        return d * 31 + (x.isSound() ? 1 : 0);
    }

    private static long signs(long d, String text) {
        long mixed = d;
        for (int i = 0; i < text.length(); i++) {
            mixed = mixed * 31 + text.charAt(i);
        }
        return mixed;
    }

    /** The call answers as is due, and changes nothing. */
    static void idle(Setsalike x, String what, Object want, Call call) {
        String before = state(x);
        due(what, want, tried(call));
        due("the state after " + what, before, state(x));
    }
}

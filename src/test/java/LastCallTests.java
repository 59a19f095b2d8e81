/** "An object is used for at most 512 calls": call after call of the same kind, up to the 512th, answers as is due. */
public final class LastCallTests {
    private static final int LAST = 512;

    public static void main(String[] args) {
        knock();
        row();
        for (int set = 0; set < 6; set++) {
            putAndDrop(set);
            family(set);
            texts(set);
        }
        comings();
        copyAndSwap();
        walks();
        takeAways();
        sound();
        digest();
        refusals();
        Checks.finish();
    }

    private static void knock() {
        Setsalike x = new Setsalike();
        for (int call = 1; call < LAST; call++) {
            Checks.due("46: knock", call, x.knock());
        }
        Checks.due("45: how often one knocked", LAST - 1, x.house(4));
    }

    /** Rounds of 14 calls; 36 rounds are 504. */
    private static void row() {
        Setsalike x = new Setsalike();
        for (int round = 0; round < LAST / 14; round++) {
            for (int i = 1; i <= 12; i++) {
                Checks.due("7: row", i, x.row(round % 30, i % 10));
            }
            Checks.due("7: row with 12", -9, x.row(0, 0));
            Checks.due("8: clearRow", 12, x.clearRow());
        }
        Checks.due("30: rowText", "", x.rowText());
        Checks.due("7: row begins anew", 1, x.row(29, 9));
        Checks.due("30: rowText then", "29.9", x.rowText());
    }

    private static void putAndDrop(int set) {
        Setsalike x = new Setsalike();
        for (int call = 2; call < LAST; call += 2) {
            Checks.due("2: put", 1, x.put(set, call % 30, call % 10));
            Checks.due("3: drop", 1, x.drop(set, call % 30));
        }
        Checks.due("45: each time it came", LAST / 2 - 1, x.house(3));
        Checks.due("19: none is left", "", x.text(set));
    }

    private static void family(int set) {
        Setsalike x = new Setsalike();
        x.put(set, 13, 1);
        for (int call = 3; call < LAST - 2; call += 2) {
            Checks.due("41: bring", 1, x.bring(set));
            Checks.due("42: remove", 1, x.remove(set));
        }
        Checks.due("41: bring", 1, x.bring(set));
        Checks.due("44: its HASH", 3, x.family(1));
    }

    private static void texts(int set) {
        Setsalike x = new Setsalike();
        for (int key = 0; key < 30; key++) {
            x.put(set, key, 9);
        }
        String due = x.text(set);
        Checks.due("19: text of all", 30, due.split(" ").length);
        for (int call = 32; call <= LAST; call++) {
            Checks.due("19: the same text", due, x.text(set));
        }
    }

    /** All 30 KEYS come time and again: as many as can come in so many calls. */
    private static void comings() {
        Setsalike x = new Setsalike();
        for (int key = 0; key < 30; key++) {
            x.put(0, key, 1);
        }
        int came = 30;
        for (int call = 32; call < LAST; call += 2) {
            Checks.due("10: join", 1, x.join(call % 5 + 1, 0));
            Checks.due("4: clear", 30, x.clear(call % 5 + 1));
            came += 30;
        }
        Checks.due("45: how often a THING came", came, x.house(3));
    }

    private static void copyAndSwap() {
        Setsalike x = Checks.with(0, 8, 3, 5);
        for (int call = 6; call < LAST; call += 3) {
            Checks.due("14: swap", 3, x.swap(0, 2));
            Checks.due("13: copy", 3, x.copy(0, 2));
            Checks.due("4: clear", 3, x.clear(2));
        }
        Checks.due("19: it came back each time", "8.8 3.3 5.5", x.text(0));
    }

    /** Rounds of 5 calls; 101 rounds are 505, with the three ahead of them 508. */
    private static void walks() {
        Setsalike x = Checks.with(1, 8, 3, 5);
        for (int round = 0; round < 101; round++) {
            Checks.due("35: walk", 3, x.walk(round % 2, 1));
            Checks.due("37: next", 8, x.next(round % 2));
            Checks.due("36: hasNext", true, x.hasNext(round % 2));
            Checks.due("39: rest", 8, x.rest(round % 2));
            Checks.due("40: ofWalk", -1, x.ofWalk(round % 2));
        }
        Checks.due("45: none is under way", 0, x.house(2));
    }

    private static void takeAways() {
        Setsalike x = new Setsalike();
        for (int call = 4; call < LAST; call += 4) {
            x.put(2, call % 30, 3);
            x.walk(1, 2);
            Checks.due("37: next", call % 30, x.next(1));
            Checks.due("38: takeAway", call % 30, x.takeAway(1));
        }
        Checks.due("16: none is left", 0, x.size(2));
        Checks.due("45: each time it came", LAST / 4 - 1, x.house(3));
    }

    private static void sound() {
        Setsalike x = new Setsalike();
        for (int call = 2; call <= LAST; call += 2) {
            x.put(call % 6, call % 29, call % 10);
            Checks.due("47: isSound", true, x.isSound());
        }
    }

    private static void digest() {
        Setsalike x = Checks.with(1, 8, 3, 5);
        long due = x.digest();
        for (int call = 5; call <= LAST; call++) {
            Checks.due("48: the same digest", due, x.digest());
        }
    }

    private static void refusals() {
        Setsalike x = new Setsalike();
        for (int call = 4; call < LAST; call += 4) {
            Checks.due("23: first", -9, x.first(1));
            Checks.notNow("37: next", () -> x.next(0));
            Checks.bad("2: put", () -> x.put(0, 30, 0));
            Checks.noSuch("10: join", () -> x.join(6, 0));
        }
        Checks.due("45: none came", 0, x.house(3));
    }
}

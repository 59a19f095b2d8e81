/** The four CONDITIONS, of each THING that there is and with each number that they take. */
public final class ConditionEdgeTests {
    public static void main(String[] args) {
        for (int key = 0; key < 30; key++) {
            for (int mark = 0; mark < 10; mark++) {
                ofThing(key % 6, key, mark);
            }
        }
        edges();
        Checks.finish();
    }

    private static void ofThing(int set, int key, int mark) {
        Setsalike x = new Setsalike();
        x.put(set, key, mark);
        for (int n = 0; n < 30; n++) {
            String of = " of " + key + "." + mark + " with " + n;
            Checks.due("22: KEY less than n" + of, key < n ? 1 : 0, x.many(set, 0, n));
            Checks.due("22: KEY MOD 3 is n MOD 3" + of, (key - n) % 3 == 0 ? 1 : 0, x.many(set, 1, n));
            Checks.due("22: MARK is n" + of, mark == n ? 1 : 0, x.many(set, 2, n));
            Checks.due("22: PLACE is n" + of, n < 5 && (key - n) % 5 == 0 ? 1 : 0, x.many(set, 3, n));
        }
    }

    private static void edges() {
        left("KEY less than 7 is not so of 7", 0, 7, "7.7 8.8 29.9");
        left("KEY less than 8 is so of 7", 0, 8, "8.8 29.9");
        left("KEY less than 0 is so of none", 0, 0, "0.0 7.7 8.8 29.9");
        left("KEY less than 29 is not so of 29", 0, 29, "29.9");
        left("KEY MOD 3 is 29 MOD 3", 1, 29, "0.0 7.7");
        left("KEY MOD 3 is 28 MOD 3", 1, 28, "0.0 8.8 29.9");
        left("KEY MOD 3 is 27 MOD 3", 1, 27, "7.7 8.8 29.9");
        left("MARK is 0", 2, 0, "7.7 8.8 29.9");
        left("MARK is 9", 2, 9, "0.0 7.7 8.8");
        left("MARK is 10, which is so of none", 2, 10, "0.0 7.7 8.8 29.9");
        left("PLACE is 0", 3, 0, "7.7 8.8 29.9");
        left("PLACE is 4", 3, 4, "0.0 7.7 8.8");
        left("PLACE is 5, which is so of none", 3, 5, "0.0 7.7 8.8 29.9");
    }

    private static void left(String which, int what, int n, String due) {
        for (int set = 0; set < 6; set++) {
            Setsalike x = Checks.with(set, 0, 7, 8, 29);
            Setsalike y = Checks.with(set, 0, 7, 8, 29);
            int went = 4 - due.split(" ").length;
            Checks.due("22: many, " + which, went, x.many(set, what, n));
            Checks.due("5: dropIf, " + which, went > 0 ? 1 : 0, x.dropIf(set, what, n));
            Checks.due("5: left by dropIf, " + which, due, x.text(set));
            Checks.due("6: pick, " + which, went, y.pick(set, what, n));
            Checks.due("6: left by pick, " + which, due, y.text(set));
        }
    }
}

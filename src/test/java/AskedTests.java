/** Promises 15 to 34: what is asked of sets, and what can only be looked at. */
public final class AskedTests {
    public static void main(String[] args) {
        keys();
        sizes();
        marks();
        texts();
        hashes();
        sums();
        first();
        at();
        isAlike();
        holds();
        holdsRow();
        isApart();
        rowText();
        withNothing();
        seen();
        meddle();
        wrongSets();
        wrongKeys();
        Checks.finish();
    }

    private static void keys() {
        for (int set = 0; set < 6; set++) {
            Setsalike x = Checks.with(set, 0, 29, 13);
            for (int key = 0; key < 30; key++) {
                boolean there = key == 0 || key == 29 || key == 13;
                Checks.due("15: has " + key, there, x.has(set, key));
                Checks.due("29: often " + key, there ? 1 : 0, x.often(set, key));
                Checks.due("33: seenHas " + key, there, x.seenHas(set, key));
                Checks.due("15: the next SET", false, x.has((set + 1) % 6, key));
            }
        }
    }

    private static void sizes() {
        Setsalike x = Checks.with(2, 1, 2, 2);
        Checks.due("16: size", 2, x.size(2));
        Checks.due("16: size of an empty one", 0, x.size(3));
        Checks.due("17: isEmpty", false, x.isEmpty(2));
        Checks.due("17: isEmpty of an empty one", true, x.isEmpty(3));
        x.clear(2);
        Checks.due("17: isEmpty then", true, x.isEmpty(2));
    }

    private static void marks() {
        Setsalike x = new Setsalike();
        x.put(1, 5, 0);
        x.put(1, 6, 9);
        x.put(1, 6, 2);
        x.put(4, 6, 3);
        Checks.due("18: mark", 0, x.mark(1, 5));
        Checks.due("18: mark", 9, x.mark(1, 6));
        Checks.due("18: mark", 3, x.mark(4, 6));
        Checks.due("18: mark of none", -1, x.mark(4, 5));
        x.drop(1, 6);
        Checks.due("18: mark of one that went", -1, x.mark(1, 6));
        x.put(1, 6, 4);
        Checks.due("18: mark of one that came again", 4, x.mark(1, 6));
    }

    private static void texts() {
        Setsalike x = Checks.with(0, 11, 2, 29, 0);
        Checks.due("19: LINKED", "11.1 2.2 29.9 0.0", x.text(0));
        Checks.fill(x, 3, 11, 2, 29, 0);
        Checks.due("19: PLAIN", "0.0 2.2 11.1 29.9", x.text(3));
        Checks.due("19: none", "", x.text(1));
        Checks.fill(x, 2, 7);
        Checks.due("19: one", "7.7", x.text(2));
    }

    private static void hashes() {
        Setsalike x = Checks.with(0, 4, 9, 29, 5);
        Checks.due("20: hash", 12, x.hash(0));
        Checks.due("20: hash of none", 0, x.hash(1));
        for (int key = 0; key < 30; key++) {
            x.put(5, key, 0);
        }
        Checks.due("20: hash of all", 60, x.hash(5));
    }

    private static void sums() {
        Setsalike x = Checks.with(0, 14, 29);
        Checks.due("21: sum", 14 + 4 + 29 + 9, x.sum(0));
        Checks.due("21: sum of none", 0, x.sum(3));
        x.put(3, 0, 7);
        Checks.due("21: sum of a MARK", 7, x.sum(3));
        x.put(3, 8, 0);
        Checks.due("21: sum", 15, x.sum(3));
    }

    private static void first() {
        Setsalike x = Checks.with(1, 9, 3, 9, 1);
        Checks.due("23: first", 9, x.first(1));
        x.drop(1, 9);
        Checks.due("23: first then", 3, x.first(1));
        Checks.due("23: first of none", -9, x.first(0));
        Checks.notNow("23: first of a PLAIN one", () -> x.first(3));
        Checks.notNow("23: first of a PLAIN one", () -> x.first(5));
    }

    private static void at() {
        Setsalike x = Checks.with(2, 9, 3, 0, 29);
        Checks.due("24: at", 0, x.at(2, 9));
        Checks.due("24: at", 2, x.at(2, 0));
        Checks.due("24: at", 3, x.at(2, 29));
        Checks.due("24: at of none", -1, x.at(2, 8));
        Checks.due("24: at of an empty one", -1, x.at(0, 0));
        x.drop(2, 3);
        Checks.due("24: at then", 1, x.at(2, 0));
        Checks.notNow("24: at of a PLAIN one", () -> x.at(3, 9));
        Checks.bad("24: at of no KEY of a PLAIN one", () -> x.at(3, 30));
        Checks.noSuch("24: at of no SET", () -> x.at(6, 30));
    }

    private static void isAlike() {
        Setsalike x = Checks.with(0, 1, 2, 3);
        x.put(4, 3, 9);
        x.put(4, 2, 9);
        Checks.due("25: not yet", false, x.isAlike(0, 4));
        Checks.due("25: not yet", false, x.isAlike(4, 0));
        x.put(4, 1, 9);
        Checks.due("25: whatever the MARKS", true, x.isAlike(0, 4));
        Checks.due("25: the other way round", true, x.isAlike(4, 0));
        Checks.due("25: itself", true, x.isAlike(0, 0));
        Checks.due("25: empty ones", true, x.isAlike(1, 5));
        Checks.fill(x, 1, 1, 2, 8);
        Checks.due("25: as many, and the same HASH", false, x.isAlike(0, 1));
    }

    private static void holds() {
        Setsalike x = Checks.with(0, 1, 2, 3);
        Checks.fill(x, 4, 3, 1);
        Checks.due("26: holds", true, x.holds(0, 4));
        Checks.due("26: the other way round", false, x.holds(4, 0));
        Checks.due("26: itself", true, x.holds(0, 0));
        Checks.due("26: an empty one", true, x.holds(4, 5));
        Checks.due("26: of an empty one", false, x.holds(5, 4));
        Checks.due("26: empty ones", true, x.holds(5, 1));
        x.put(4, 6, 0);
        Checks.due("26: the same PLACE is not enough", false, x.holds(0, 4));
    }

    private static void holdsRow() {
        Setsalike x = Checks.with(0, 1, 2);
        Checks.due("27: no ROW", true, x.holdsRow(5));
        x.row(2, 9);
        x.row(2, 8);
        x.row(1, 0);
        Checks.due("27: holdsRow", true, x.holdsRow(0));
        Checks.due("27: not", false, x.holdsRow(5));
        x.row(3, 3);
        Checks.due("27: not all", false, x.holdsRow(0));
        x.clearRow();
        x.row(3, 3);
        x.row(2, 2);
        Checks.due("27: all but the first one", false, x.holdsRow(0));
    }

    private static void isApart() {
        Setsalike x = Checks.with(0, 1, 2);
        Checks.fill(x, 3, 3, 6);
        Checks.due("28: isApart", true, x.isApart(0, 3));
        Checks.due("28: an empty one", true, x.isApart(0, 1));
        Checks.due("28: an empty one and itself", true, x.isApart(1, 1));
        Checks.due("28: itself", false, x.isApart(0, 0));
        x.put(3, 2, 0);
        Checks.due("28: not", false, x.isApart(0, 3));
        Checks.due("28: the other way round", false, x.isApart(3, 0));
    }

    private static void rowText() {
        Setsalike x = new Setsalike();
        Checks.due("30: none", "", x.rowText());
        x.row(7, 3);
        Checks.due("30: one", "7.3", x.rowText());
        x.row(29, 0);
        x.row(7, 3);
        Checks.due("30: three", "7.3 29.0 7.3", x.rowText());
    }

    private static void withNothing() {
        for (int set = 0; set < 6; set++) {
            final int s = set;
            for (int what = 0; what < 4; what++) {
                final int w = what;
                Twins.idle("31: withNothing", Twins::busy, -9, x -> x.withNothing(s, w));
            }
            Twins.idle("31: withNothing", Twins::busy, Twins.ARGUMENT, x -> x.withNothing(s, -1));
            Twins.idle("31: withNothing", Twins::busy, Twins.ARGUMENT, x -> x.withNothing(s, 4));
        }
    }

    private static void seen() {
        for (int set = 0; set < 6; set++) {
            Setsalike x = Checks.with(0, 9, 14, 3);
            Checks.fill(x, 4, 9, 14, 3);
            final int s = set;
            boolean full = set == 0 || set == 4;
            int[] due = {full ? 3 : 0, full ? 11 : 0, 1, 1, full ? 26 : 0};
            for (int what = 0; what < 5; what++) {
                final int w = what;
                Checks.idle(x, "32: seen", due[what], () -> x.seen(s, w));
            }
            Checks.bad("32: seen", () -> x.seen(s, -1));
            Checks.bad("32: seen", () -> x.seen(s, 5));
        }
    }

    private static void meddle() {
        for (int set = 0; set < 6; set++) {
            Setsalike x = Checks.with(0, 0, 5);
            Checks.fill(x, 4, 7);
            x.walk(0, 0);
            final int s = set;
            for (int what = 0; what < 5; what++) {
                final int w = what;
                int due = what == 3 && set != 0 && set != 4 ? 0 : -9;
                Checks.idle(x, "34: meddle", due, () -> x.meddle(s, w));
            }
            Checks.idle(x, "34: meddle", "throws IllegalArgumentException", () -> x.meddle(s, -1));
            Checks.idle(x, "34: meddle", "throws IllegalArgumentException", () -> x.meddle(s, 5));
        }
    }

    private static void wrongSets() {
        Setsalike x = Checks.with(0, 1);
        for (int set : new int[] {-1, 6, Integer.MAX_VALUE, Integer.MIN_VALUE}) {
            Checks.noSuch("15: has", () -> x.has(set, 30));
            Checks.noSuch("16: size", () -> x.size(set));
            Checks.noSuch("17: isEmpty", () -> x.isEmpty(set));
            Checks.noSuch("18: mark", () -> x.mark(set, 30));
            Checks.noSuch("19: text", () -> x.text(set));
            Checks.noSuch("20: hash", () -> x.hash(set));
            Checks.noSuch("21: sum", () -> x.sum(set));
            Checks.noSuch("22: many", () -> x.many(set, 4, 0));
            Checks.noSuch("23: first", () -> x.first(set));
            Checks.noSuch("24: at", () -> x.at(set, 0));
            Checks.noSuch("25: isAlike", () -> x.isAlike(set, 0));
            Checks.noSuch("25: isAlike", () -> x.isAlike(0, set));
            Checks.noSuch("25: isAlike", () -> x.isAlike(set, set));
            Checks.noSuch("26: holds", () -> x.holds(set, 0));
            Checks.noSuch("26: holds", () -> x.holds(0, set));
            Checks.noSuch("27: holdsRow", () -> x.holdsRow(set));
            Checks.noSuch("28: isApart", () -> x.isApart(set, 0));
            Checks.noSuch("28: isApart", () -> x.isApart(0, set));
            Checks.noSuch("29: often", () -> x.often(set, 30));
            Checks.noSuch("31: withNothing", () -> x.withNothing(set, 0));
            Checks.noSuch("32: seen", () -> x.seen(set, 0));
            Checks.noSuch("33: seenHas", () -> x.seenHas(set, 30));
            Checks.noSuch("34: meddle", () -> x.meddle(set, 0));
        }
    }

    private static void wrongKeys() {
        Setsalike x = Checks.with(0, 1);
        for (int key : new int[] {-1, 30, Integer.MAX_VALUE, Integer.MIN_VALUE}) {
            Checks.bad("15: has", () -> x.has(0, key));
            Checks.bad("18: mark", () -> x.mark(0, key));
            Checks.bad("24: at", () -> x.at(0, key));
            Checks.bad("29: often", () -> x.often(0, key));
            Checks.bad("33: seenHas", () -> x.seenHas(0, key));
        }
    }
}

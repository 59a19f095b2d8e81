/** Six sets of things, a row, two walks and a family of sets; README.md says how to use it. */
public final class Setsalike {
    private static final int NONE = -1;
    private static final int REFUSED = -9;
    private static final int SETS = 6;
    private static final int LINKED_SETS = 3;
    private static final int WALKS = 2;
    private static final int KEYS = 30;
    private static final int MARKS = 10;
    private static final int PLACES = 5;
    private static final int CONDITIONS = 4;
    private static final int NUMBERS = 30;
    private static final int MOST_IN_ROW = 12;
    private static final int MOST_IN_FAMILY = 8;
    private static final long DIGEST_START = 7781L;

    private final Things[] sets = new Things[SETS];
    private final Walk[] walks = new Walk[WALKS];
    private final Row queue = new Row();
    private final Family kin = new Family();
    // Kept for swap() and isSound(), so that no call has to make a set of its own.
    private final Things linkedSpare = new Things(true);
    private final Things plainSpare = new Things(false);
    private int comings = 0;
    private int knocks = 0;

    public Setsalike() {
        for (int set = 0; set < sets.length; set++) {
            sets[set] = new Things(set < LINKED_SETS);
        }
        for (int walk = 0; walk < walks.length; walk++) {
            walks[walk] = new Walk();
        }
    }

    // ---- things come and go

    public int put(int set, int key, int mark) throws IndexOutOfBoundsException, IllegalArgumentException {
        Things things = thingsOf(set);
        needKey(key);
        needMark(mark);
        return noteComings(set, things.come(key, mark) ? 1 : 0);
    }

    public int drop(int set, int key) throws IndexOutOfBoundsException, IllegalArgumentException {
        Things things = thingsOf(set);
        needKey(key);
        return noteChange(set, things.keepOnly(~(1 << key)));
    }

    public int clear(int set) throws IndexOutOfBoundsException {
        int went = thingsOf(set).keepOnly(0);
        endWalksOver(set, NONE);
        return went;
    }

    public int dropIf(int set, int what, int n) throws IndexOutOfBoundsException, IllegalArgumentException {
        Things things = thingsOf(set);
        needCondition(what, n);
        return noteChange(set, things.keepOnly(~things.keysWhere(what, n)));
    }

    public int pick(int set, int what, int n) throws IndexOutOfBoundsException, IllegalArgumentException {
        Things things = thingsOf(set);
        needCondition(what, n);
        int went = things.keepOnly(~things.keysWhere(what, n));
        noteChange(set, went);
        return went;
    }

    public int row(int key, int mark) throws IllegalArgumentException {
        needKey(key);
        needMark(mark);
        return queue.append(key, mark) ? queue.amount() : REFUSED;
    }

    public int clearRow() {
        return queue.empty();
    }

    public int putRow(int set) throws IndexOutOfBoundsException {
        return noteComings(set, queue.comeInto(thingsOf(set)));
    }

    // ---- two sets

    public int join(int set, int other)
            throws IndexOutOfBoundsException, IllegalArgumentException, IllegalStateException {
        Things things = thingsOf(set);
        Things others = thingsOf(other);
        needTwo(set, other);
        needSequenceFor(things, others);
        return noteComings(set, things.takeIn(others));
    }

    public int less(int set, int other) throws IndexOutOfBoundsException, IllegalArgumentException {
        Things things = thingsOf(set);
        Things others = thingsOf(other);
        needTwo(set, other);
        return noteChange(set, things.keepOnly(~others.keyBits()));
    }

    public int common(int set, int other) throws IndexOutOfBoundsException, IllegalArgumentException {
        Things things = thingsOf(set);
        Things others = thingsOf(other);
        needTwo(set, other);
        return noteChange(set, things.keepOnly(others.keyBits()));
    }

    public int copy(int set, int from)
            throws IndexOutOfBoundsException, IllegalArgumentException, IllegalStateException {
        Things things = thingsOf(set);
        Things others = thingsOf(from);
        needTwo(set, from);
        needSequenceFor(things, others);
        things.become(others);
        endWalksOver(set, NONE);
        return things.amount();
    }

    public int swap(int set, int other)
            throws IndexOutOfBoundsException, IllegalArgumentException, IllegalStateException {
        Things things = thingsOf(set);
        Things others = thingsOf(other);
        needTwo(set, other);
        if (things.isLinked() != others.isLinked()) {
            throw new IllegalStateException("one SET is LINKED, the other one PLAIN");
        }
        Things spare = spareLike(things);
        spare.become(things);
        things.become(others);
        others.become(spare);
        endWalksOver(set, NONE);
        endWalksOver(other, NONE);
        return things.amount() + others.amount();
    }

    // ---- what is asked of sets

    public boolean has(int set, int key) throws IndexOutOfBoundsException, IllegalArgumentException {
        Things things = thingsOf(set);
        needKey(key);
        return things.includes(key);
    }

    public int size(int set) throws IndexOutOfBoundsException {
        return thingsOf(set).amount();
    }

    public boolean isEmpty(int set) throws IndexOutOfBoundsException {
        return thingsOf(set).amount() == 0;
    }

    public int mark(int set, int key) throws IndexOutOfBoundsException, IllegalArgumentException {
        Things things = thingsOf(set);
        needKey(key);
        return things.markOf(key);
    }

    public String text(int set) throws IndexOutOfBoundsException {
        Things things = thingsOf(set);
        StringBuilder page = new StringBuilder();
        things.writeOn(page);
        return page.toString();
    }

    public int hash(int set) throws IndexOutOfBoundsException {
        return thingsOf(set).sumOfPlaces();
    }

    public int sum(int set) throws IndexOutOfBoundsException {
        return sumOfThings(thingsOf(set));
    }

    public int many(int set, int what, int n) throws IndexOutOfBoundsException, IllegalArgumentException {
        Things things = thingsOf(set);
        needCondition(what, n);
        return Integer.bitCount(things.keysWhere(what, n));
    }

    public int first(int set) throws IndexOutOfBoundsException, IllegalStateException {
        Things things = thingsOf(set);
        needLinked(things);
        return things.amount() == 0 ? REFUSED : things.keyAt(0);
    }

    public int at(int set, int key)
            throws IndexOutOfBoundsException, IllegalArgumentException, IllegalStateException {
        Things things = thingsOf(set);
        needKey(key);
        needLinked(things);
        return things.spotOf(key);
    }

    public boolean isAlike(int set, int other) throws IndexOutOfBoundsException {
        return thingsOf(set).sameKeys(thingsOf(other));
    }

    public boolean holds(int set, int other) throws IndexOutOfBoundsException {
        return thingsOf(set).includesAll(thingsOf(other));
    }

    public boolean holdsRow(int set) throws IndexOutOfBoundsException {
        return queue.isWithin(thingsOf(set));
    }

    public boolean isApart(int set, int other) throws IndexOutOfBoundsException {
        return (thingsOf(set).keyBits() & thingsOf(other).keyBits()) == 0;
    }

    public int often(int set, int key) throws IndexOutOfBoundsException, IllegalArgumentException {
        Things things = thingsOf(set);
        needKey(key);
        return things.includes(key) ? 1 : 0;
    }

    public String rowText() {
        StringBuilder page = new StringBuilder();
        queue.writeOn(page);
        return page.toString();
    }

    public int withNothing(int set, int what) throws IndexOutOfBoundsException, IllegalArgumentException {
        thingsOf(set);
        needChoice(what, 3);
        return REFUSED;
    }

    // ---- what can only be looked at

    public int seen(int set, int what) throws IndexOutOfBoundsException, IllegalArgumentException {
        Things things = thingsOf(set);
        needChoice(what, 4);
        switch (what) {
            case 0:
                return things.amount();
            case 1:
                return things.sumOfPlaces();
            case 2:
            case 3:
                // A look shows the SET itself, so both ways round compare the same KEYS.
                return things.sameKeys(things) ? 1 : 0;
            default:
                return things.sumOfKeys();
        }
    }

    public boolean seenHas(int set, int key) throws IndexOutOfBoundsException, IllegalArgumentException {
        Things things = thingsOf(set);
        needKey(key);
        return things.includes(key);
    }

    public int meddle(int set, int what) throws IndexOutOfBoundsException, IllegalArgumentException {
        Things things = thingsOf(set);
        needChoice(what, 4);
        return what == 3 && things.amount() == 0 ? 0 : REFUSED;
    }

    // ---- walks

    public int walk(int walk, int set) throws IndexOutOfBoundsException, IllegalStateException {
        Walk going = walkOf(walk);
        Things things = thingsOf(set);
        needLinked(things);
        going.begin(things, set);
        return things.amount();
    }

    public boolean hasNext(int walk) throws IndexOutOfBoundsException, IllegalStateException {
        return walkUnderWay(walk).hasMore();
    }

    public int next(int walk) throws IndexOutOfBoundsException, IllegalStateException {
        return walkUnderWay(walk).step();
    }

    public int takeAway(int walk) throws IndexOutOfBoundsException, IllegalStateException {
        Walk going = walkUnderWay(walk);
        int key = going.dropGiven();
        if (key != REFUSED) {
            endWalksOver(going.setNumber(), walk);
        }
        return key;
    }

    public int rest(int walk) throws IndexOutOfBoundsException, IllegalStateException {
        return walkUnderWay(walk).finish();
    }

    public int ofWalk(int walk) throws IndexOutOfBoundsException {
        return walkOf(walk).setNumber();
    }

    // ---- the family

    public int bring(int set) throws IndexOutOfBoundsException {
        return kin.welcome(thingsOf(set).keyBits());
    }

    public int remove(int set) throws IndexOutOfBoundsException {
        return kin.expel(thingsOf(set).keyBits()) ? 1 : 0;
    }

    public boolean isIn(int set) throws IndexOutOfBoundsException {
        return kin.knows(thingsOf(set).keyBits());
    }

    public int family(int what) throws IllegalArgumentException {
        needChoice(what, 2);
        return familyCount(what);
    }

    // ---- all

    public int house(int what) throws IllegalArgumentException {
        needChoice(what, 4);
        return houseCount(what);
    }

    public int knock() {
        knocks++;
        return knocks;
    }

    public boolean isSound() {
        for (int set = 0; set < SETS; set++) {
            if (!isSoundAlone(thingsOf(set))) {
                return false;
            }
            for (int other = set + 1; other < SETS; other++) {
                if (!isSoundPair(thingsOf(set), thingsOf(other))) {
                    return false;
                }
            }
        }
        return true;
    }

    public long digest() {
        StringBuilder page = new StringBuilder();
        long d = DIGEST_START;
        for (int what = 0; what <= 4; what++) {
            d = mix(d, houseCount(what));
        }
        d = mixSets(d, page);
        d = mixPairs(d);
        for (int walk = 0; walk < WALKS; walk++) {
            d = mix(d, walkOf(walk).setNumber());
        }
        d = mixFamily(d);
        page.setLength(0);
        queue.writeOn(page);
        d = mixSigns(d, page);
        return mix(d, isSound() ? 1 : 0);
    }

    // ---- which exception is thrown; each face method calls these in the document's order

    private Things thingsOf(int set) {
        Things things = set >= 0 && set < sets.length ? sets[set] : null;
        if (things == null) {
            throw new IndexOutOfBoundsException("no such SET");
        }
        return things;
    }

    private Walk walkOf(int walk) {
        Walk going = walk >= 0 && walk < walks.length ? walks[walk] : null;
        if (going == null) {
            throw new IndexOutOfBoundsException("no such WALK");
        }
        return going;
    }

    private Walk walkUnderWay(int walk) {
        Walk going = walkOf(walk);
        if (!going.isUnderWay()) {
            throw new IllegalStateException("the WALK is not under way");
        }
        return going;
    }

    private static void needKey(int key) {
        if (key < 0 || key >= KEYS) {
            throw new IllegalArgumentException("a KEY is 0 to 29");
        }
    }

    private static void needMark(int mark) {
        if (mark < 0 || mark >= MARKS) {
            throw new IllegalArgumentException("a MARK is 0 to 9");
        }
    }

    private static void needCondition(int what, int n) {
        if (what < 0 || what >= CONDITIONS || n < 0 || n >= NUMBERS) {
            throw new IllegalArgumentException("a CONDITION is 0 to 3, its number 0 to 29");
        }
    }

    private static void needChoice(int what, int last) {
        if (what < 0 || what > last) {
            throw new IllegalArgumentException("there is no such choice");
        }
    }

    private static void needTwo(int set, int other) {
        if (set == other) {
            throw new IllegalArgumentException("both SETS are one");
        }
    }

    private static void needSequenceFor(Things things, Things others) {
        if (things.isLinked() && !others.isLinked()) {
            throw new IllegalStateException("a LINKED SET takes no SEQUENCE from a PLAIN one");
        }
    }

    private static void needLinked(Things things) {
        if (!things.isLinked()) {
            throw new IllegalStateException("the SET is PLAIN");
        }
    }

    // ---- changes, and the walks that they end

    /** Answers 1 if any came, otherwise 0. */
    private int noteComings(int set, int howMany) {
        comings += howMany;
        return noteChange(set, howMany);
    }

    /** Answers 1 if anything changed, otherwise 0. */
    private int noteChange(int set, int howMany) {
        if (howMany <= 0) {
            return 0;
        }
        endWalksOver(set, NONE);
        return 1;
    }

    private void endWalksOver(int set, int spared) {
        for (int walk = 0; walk < WALKS; walk++) {
            Walk going = walkOf(walk);
            if (walk != spared && going.setNumber() == set) {
                going.end();
            }
        }
    }

    // ---- counts

    private static int sumOfThings(Things things) {
        return things.sumOfKeys() + things.sumOfMarks();
    }

    private int familyCount(int what) {
        switch (what) {
            case 0:
                return kin.amount();
            case 1:
                return kin.sumOfPlaces();
            default:
                return kin.amountOfKeys();
        }
    }

    private int houseCount(int what) {
        switch (what) {
            case 0:
                return thingsInAll();
            case 1:
                return queue.amount();
            case 2:
                return walksUnderWay();
            case 3:
                return comings;
            default:
                return knocks;
        }
    }

    private int thingsInAll() {
        int total = 0;
        for (int set = 0; set < SETS; set++) {
            total += thingsOf(set).amount();
        }
        return total;
    }

    private int walksUnderWay() {
        int total = 0;
        for (int walk = 0; walk < WALKS; walk++) {
            if (walkOf(walk).isUnderWay()) {
                total++;
            }
        }
        return total;
    }

    // ---- soundness

    private Things spareLike(Things things) {
        return things.isLinked() ? linkedSpare : plainSpare;
    }

    private boolean isSoundAlone(Things things) {
        Things spare = spareLike(things);
        spare.become(things);
        if (spare.takeIn(things) != 0 || !spare.sameKeys(things)) {
            return false;
        }
        spare.keepOnly(~things.keyBits());
        return spare.amount() == 0 && isCountedRight(things);
    }

    private static boolean isCountedRight(Things things) {
        int found = 0;
        int places = 0;
        for (int key = 0; key < KEYS; key++) {
            if (things.includes(key)) {
                found++;
                places += placeOf(key);
            }
        }
        return things.amount() == found && things.sumOfPlaces() == places;
    }

    private boolean isSoundPair(Things one, Things two) {
        if (one.sameKeys(two) != two.sameKeys(one)) {
            return false;
        }
        if (one.sameKeys(two) && !isAlikeInAll(one, two)) {
            return false;
        }
        int together = one.amount() + two.amount();
        return joinedAmount(one, two) + commonAmount(one, two) == together
                && joinedAmount(two, one) + commonAmount(two, one) == together;
    }

    private static boolean isAlikeInAll(Things one, Things two) {
        return one.sumOfPlaces() == two.sumOfPlaces() && one.includesAll(two) && two.includesAll(one);
    }

    private int joinedAmount(Things one, Things two) {
        Things spare = spareLike(one);
        spare.become(one);
        spare.takeIn(two);
        return spare.amount();
    }

    private int commonAmount(Things one, Things two) {
        Things spare = spareLike(one);
        spare.become(one);
        spare.keepOnly(two.keyBits());
        return spare.amount();
    }

    // ---- the digest

    private static long mix(long d, long v) {
        return d * 31 + v;
    }

    private static long mixSigns(long d, StringBuilder page) {
        long mixed = d;
        for (int i = 0; i < page.length(); i++) {
            mixed = mix(mixed, page.charAt(i));
        }
        return mixed;
    }

    private long mixSets(long d, StringBuilder page) {
        long mixed = d;
        for (int set = 0; set < SETS; set++) {
            Things things = thingsOf(set);
            mixed = mix(mixed, things.amount());
            mixed = mix(mixed, things.sumOfPlaces());
            mixed = mix(mixed, sumOfThings(things));
            page.setLength(0);
            things.writeOn(page);
            mixed = mixSigns(mixed, page);
        }
        return mixed;
    }

    private long mixPairs(long d) {
        long mixed = d;
        for (int set = 0; set < SETS; set++) {
            for (int other = 0; other < SETS; other++) {
                mixed = mix(mixed, thingsOf(set).sameKeys(thingsOf(other)) ? 1 : 0);
                mixed = mix(mixed, thingsOf(set).includesAll(thingsOf(other)) ? 1 : 0);
            }
        }
        return mixed;
    }

    private long mixFamily(long d) {
        long mixed = d;
        for (int what = 0; what <= 2; what++) {
            mixed = mix(mixed, familyCount(what));
        }
        for (int set = 0; set < SETS; set++) {
            mixed = mix(mixed, kin.knows(thingsOf(set).keyBits()) ? 1 : 0);
        }
        return mixed;
    }

    // ---- keys and things

    private static int placeOf(int key) {
        return key % PLACES;
    }

    private static boolean meets(int what, int n, int key, int mark) {
        switch (what) {
            case 0:
                return key < n;
            case 1:
                return key % 3 == n % 3;
            case 2:
                return mark == n;
            default:
                return placeOf(key) == n;
        }
    }

    private static void writeThing(StringBuilder page, int key, int mark) {
        if (page.length() > 0) {
            page.append(' ');
        }
        page.append(key);
        page.append('.');
        page.append(mark);
    }

    /** One SET. Its KEYS are held twice: as bits to be sought fast, and as a line to be told in order. */
    private static final class Things {
        private final boolean linked;
        private final int[] line = new int[KEYS];
        private final int[] markByKey = new int[KEYS];
        private int bits = 0;
        private int count = 0;

        Things(boolean linked) {
            this.linked = linked;
        }

        boolean isLinked() {
            return linked;
        }

        int amount() {
            return count;
        }

        int keyBits() {
            return bits;
        }

        boolean includes(int key) {
            return key >= 0 && key < KEYS && (bits >> key & 1) != 0;
        }

        boolean includesAll(Things other) {
            return (bits & other.bits) == other.bits;
        }

        boolean sameKeys(Things other) {
            return bits == other.bits;
        }

        int keyAt(int spot) {
            return spot >= 0 && spot < count && spot < line.length ? line[spot] : NONE;
        }

        int markOf(int key) {
            boolean there = key >= 0 && key < markByKey.length && (bits >> key & 1) != 0;
            return there ? markByKey[key] : NONE;
        }

        int spotOf(int key) {
            for (int spot = 0; spot < count; spot++) {
                if (keyAt(spot) == key) {
                    return spot;
                }
            }
            return NONE;
        }

        boolean come(int key, int mark) {
            if (key < 0 || key >= markByKey.length || count < 0 || count >= line.length) {
                return false;
            }
            if ((bits >> key & 1) != 0) {
                return false;
            }
            int spot = count;
            // The line of a PLAIN SET stays sorted, so that both kinds are told from it alike.
            while (!linked && spot > 0 && line[spot - 1] > key) {
                line[spot] = line[spot - 1];
                spot--;
            }
            line[spot] = key;
            markByKey[key] = mark;
            bits |= 1 << key;
            count++;
            return true;
        }

        int takeIn(Things other) {
            int came = 0;
            for (int spot = 0; spot < other.count; spot++) {
                int key = other.keyAt(spot);
                if (come(key, other.markOf(key))) {
                    came++;
                }
            }
            return came;
        }

        int keepOnly(int wantedBits) {
            int before = count;
            int kept = 0;
            for (int spot = 0; spot < before && spot < line.length; spot++) {
                int key = line[spot];
                if ((wantedBits >> key & 1) != 0) {
                    line[kept] = key;
                    kept++;
                }
            }
            bits &= wantedBits;
            count = kept;
            return before - kept;
        }

        void become(Things other) {
            keepOnly(0);
            takeIn(other);
        }

        int keysWhere(int what, int n) {
            int found = 0;
            for (int spot = 0; spot < count; spot++) {
                int key = keyAt(spot);
                if (meets(what, n, key, markOf(key))) {
                    found |= 1 << key;
                }
            }
            return found;
        }

        int sumOfPlaces() {
            int total = 0;
            for (int spot = 0; spot < count; spot++) {
                total += placeOf(keyAt(spot));
            }
            return total;
        }

        int sumOfKeys() {
            int total = 0;
            for (int spot = 0; spot < count; spot++) {
                total += keyAt(spot);
            }
            return total;
        }

        int sumOfMarks() {
            int total = 0;
            for (int spot = 0; spot < count; spot++) {
                total += markOf(keyAt(spot));
            }
            return total;
        }

        void writeOn(StringBuilder page) {
            for (int spot = 0; spot < count; spot++) {
                int key = keyAt(spot);
                writeThing(page, key, markOf(key));
            }
        }
    }

    /** The ROW. */
    private static final class Row {
        private final int[] rowKeys = new int[MOST_IN_ROW];
        private final int[] rowMarks = new int[MOST_IN_ROW];
        private int count = 0;

        int amount() {
            return count;
        }

        boolean append(int key, int mark) {
            if (count < 0 || count >= rowKeys.length || count >= rowMarks.length) {
                return false;
            }
            rowKeys[count] = key;
            rowMarks[count] = mark;
            count++;
            return true;
        }

        int empty() {
            int before = count;
            count = 0;
            return before;
        }

        int comeInto(Things things) {
            int came = 0;
            for (int i = 0; i < count && i < rowKeys.length && i < rowMarks.length; i++) {
                if (things.come(rowKeys[i], rowMarks[i])) {
                    came++;
                }
            }
            return came;
        }

        boolean isWithin(Things things) {
            for (int i = 0; i < count && i < rowKeys.length; i++) {
                if (!things.includes(rowKeys[i])) {
                    return false;
                }
            }
            return true;
        }

        void writeOn(StringBuilder page) {
            for (int i = 0; i < count && i < rowKeys.length && i < rowMarks.length; i++) {
                writeThing(page, rowKeys[i], rowMarks[i]);
            }
        }
    }

    /** A WALK; it is under way as long as it goes over something. */
    private static final class Walk {
        private Things over = null;
        private int number = NONE;
        private int ahead = 0;
        private int given = NONE;

        void begin(Things things, int set) {
            over = things;
            number = set;
            ahead = 0;
            given = NONE;
        }

        void end() {
            over = null;
            number = NONE;
            ahead = 0;
            given = NONE;
        }

        boolean isUnderWay() {
            return over != null;
        }

        int setNumber() {
            return number;
        }

        boolean hasMore() {
            return over != null && ahead < over.amount();
        }

        int step() {
            if (over == null || ahead >= over.amount()) {
                end();
                return REFUSED;
            }
            given = over.keyAt(ahead);
            ahead++;
            return given;
        }

        int dropGiven() {
            if (over == null || !over.includes(given)) {
                return REFUSED;
            }
            int key = given;
            over.keepOnly(~(1 << key));
            ahead--;
            given = NONE;
            return key;
        }

        int finish() {
            int total = 0;
            if (over != null) {
                for (int spot = ahead; spot < over.amount(); spot++) {
                    total += over.keyAt(spot);
                }
            }
            end();
            return total;
        }
    }

    /** The FAMILY; each set in it is held as the bits of its KEYS, which later changes do not reach. */
    private static final class Family {
        private final int[] members = new int[MOST_IN_FAMILY];
        private int count = 0;

        int amount() {
            return count;
        }

        boolean knows(int bits) {
            return spotOf(bits) != NONE;
        }

        /** Answers 1 if it came, 0 if it was there, REFUSED if there is no room. */
        int welcome(int bits) {
            if (knows(bits)) {
                return 0;
            }
            if (count < 0 || count >= members.length) {
                return REFUSED;
            }
            members[count] = bits;
            count++;
            return 1;
        }

        boolean expel(int bits) {
            int spot = spotOf(bits);
            int last = count - 1;
            if (spot < 0 || spot >= members.length || last < 0 || last >= members.length) {
                return false;
            }
            members[spot] = members[last];
            count = last;
            return true;
        }

        int sumOfPlaces() {
            int total = 0;
            for (int i = 0; i < count && i < members.length; i++) {
                for (int key = 0; key < KEYS; key++) {
                    total += (members[i] >> key & 1) * placeOf(key);
                }
            }
            return total;
        }

        int amountOfKeys() {
            int total = 0;
            for (int i = 0; i < count && i < members.length; i++) {
                total += Integer.bitCount(members[i]);
            }
            return total;
        }

        private int spotOf(int bits) {
            for (int i = 0; i < count && i < members.length; i++) {
                if (members[i] == bits) {
                    return i;
                }
            }
            return NONE;
        }
    }
}

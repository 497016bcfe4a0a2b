/**
 * Orders of up to eight things, held in three slots and measured.
 * Sets of things are bits: thing x is the bit 1 << x.
 */
public final class OrderGauge {
    public static final int NONE = -1;

    private static final int REFUSED = -2;
    private static final int TOO_LONG = -3;
    private static final int FAULTY = -4;
    private static final int FULL = -5;
    private static final int CAN_NOT = -6;

    private static final int SLOT_COUNT = 3;
    private static final int MOST_THINGS = 8;
    private static final int MOST_ROWS = 6;
    private static final int MOST_PLACES = 4;
    private static final int MOST_TRIES = 100000;
    private static final int MOST_TAPE = 400;
    // The longest text has 150 bytes: 16 covers and 6 rows of 8 things.
    private static final int MOST_OUT = 160;
    private static final int MOST_UNDONE = 10;
    private static final int SETS = 256;
    private static final int MOST_TWOS = MOST_THINGS * (MOST_THINGS - 1);

    private final Order[] slots;
    // What a slot is to become is built here first, so that a call that is refused changes nothing.
    private final Order next;
    private final Past past;
    private final Bytes tape;
    private final Bytes out;
    private final Reader reader;
    private final Chains chains;
    private final Lines lineTable;
    private final Jumps jumpTable;
    private final Search search;
    private final Likeness likeness;

    public OrderGauge() {
        slots = new Order[SLOT_COUNT];
        for (int slot = 0; slot < SLOT_COUNT; slot++) {
            slots[slot] = new Order();
        }
        next = new Order();
        past = new Past();
        tape = new Bytes(MOST_TAPE);
        out = new Bytes(MOST_OUT);
        reader = new Reader(tape);
        chains = new Chains();
        lineTable = new Lines();
        jumpTable = new Jumps();
        search = new Search();
        likeness = new Likeness();
    }

    public int feed(int a, int b, int c, int d, int e) {
        if (tape.size() + 20 > MOST_TAPE) {
            return NONE;
        }
        tape.putFour(a);
        tape.putFour(b);
        tape.putFour(c);
        tape.putFour(d);
        tape.putFour(e);
        return tape.size();
    }

    public int end(int n) {
        if (n < 0 || n > tape.size()) {
            return NONE;
        }
        tape.shorten(n);
        return n;
    }

    public int told(int slot) {
        if (!isSlot(slot)) {
            return REFUSED;
        }
        boolean sound = reader.read(next);
        tape.shorten(0);
        if (!sound) {
            return FAULTY;
        }
        become(slot);
        return next.twos();
    }

    public int fault(int what) {
        switch (what) {
            case 0: return reader.faultKind();
            case 1: return reader.faultPlace();
            default: return NONE;
        }
    }

    public int count(int what) {
        switch (what) {
            case 0: return filledSlots();
            case 1: return past.size();
            case 2: return tape.size();
            case 3: return out.size();
            default: return NONE;
        }
    }

    public int look(int slot, int what) {
        Order order = orderIn(slot);
        if (order == null) {
            return REFUSED;
        }
        switch (what) {
            case 0: return order.size();
            case 1: return order.twos();
            case 2: return order.covers();
            case 3: return chains.height(order);
            case 4: return Integer.bitCount(Shapes.widest(order));
            case 5: return order.freeTwos();
            case 6: return Shapes.ideals(order);
            case 7: return Shapes.hangingParts(order);
            case 8: return order.rows().size();
            default: return REFUSED;
        }
    }

    public int of(int slot, int thing, int what) {
        Order order = orderWith(slot, thing);
        if (order == null) {
            return REFUSED;
        }
        switch (what) {
            case 0: return order.belowOf(thing);
            case 1: return order.aboveOf(thing);
            case 2: return order.freeOf(thing);
            case 3: return order.coveredBy(thing);
            case 4: return order.coversOf(thing);
            default: return REFUSED;
        }
    }

    public int is(int slot, int what) {
        Order order = orderIn(slot);
        if (order == null) {
            return REFUSED;
        }
        switch (what) {
            case 0: return bit(order.freeTwos() == 0);
            case 1: return bit(order.twos() == 0);
            case 2: return bit(!Shapes.hasN(order));
            case 3: return bit(!Shapes.hasTwoAndTwo(order));
            case 4: return bit(!Shapes.hasThreeAndOne(order) && !Shapes.hasTwoAndTwo(order));
            case 5: return bit(Shapes.isLattice(order));
            case 6: return bit(chains.isLevelled(order));
            default: return REFUSED;
        }
    }

    public int chain(int slot, int k) {
        Order order = orderIn(slot);
        if (order == null || k < 0) {
            return REFUSED;
        }
        return chains.longestAt(order, k);
    }

    public int anti(int slot) {
        Order order = orderIn(slot);
        return order == null ? REFUSED : Shapes.widest(order);
    }

    public int part(int slot, int thing) {
        Order order = orderWith(slot, thing);
        return order == null ? REFUSED : chains.chainOf(order, thing);
    }

    public int lines(int slot) {
        Order order = orderIn(slot);
        return order == null ? REFUSED : linesOf(order).total();
    }

    public int line(int slot, int k, int i) {
        Order order = orderWith(slot, i);
        if (order == null || k < 0) {
            return REFUSED;
        }
        return linesOf(order).thingAt(order, k, i);
    }

    public int rank(int slot, int row) {
        Order order = orderWithRow(slot, row);
        return order == null ? REFUSED : linesOf(order).numberOf(order, row);
    }

    public int deep(int slot, int thing, int what) {
        Order order = orderWith(slot, thing);
        if (order == null || !isBit(what)) {
            return REFUSED;
        }
        return chains.depth(order, thing, what == 1);
    }

    public int through(int slot, int set) {
        Order order = orderIn(slot);
        if (order == null || set < 0 || set > order.all()) {
            return REFUSED;
        }
        return linesOf(order).thatBeginWith(set);
    }

    public int before(int slot, int a, int b) {
        Order order = orderWith(slot, a);
        if (order == null || !order.has(b)) {
            return REFUSED;
        }
        return linesOf(order).withFirstAhead(order, a, b);
    }

    public int at(int slot, int thing, int i) {
        Order order = orderWith(slot, thing);
        if (order == null || !order.has(i)) {
            return REFUSED;
        }
        return linesOf(order).withThingAt(order, thing, i);
    }

    public int mean(int slot, int thing, int what) {
        Order order = orderWith(slot, thing);
        if (order == null || !isBit(what)) {
            return REFUSED;
        }
        int total = linesOf(order).total();
        int sum = lineTable.placeSum(order, thing);
        int divisor = commonDivisor(sum, total);
        if (divisor == 0) {
            return REFUSED;
        }
        return (what == 0 ? sum : total) / divisor;
    }

    public int balance(int slot, int what) {
        Order order = orderIn(slot);
        if (order == null || !isBit(what)) {
            return REFUSED;
        }
        int two = linesOf(order).bestBalanced(order);
        if (two == NONE || what == 0) {
            return two;
        }
        return lineTable.withFirstAhead(order, two / 10, two % 10);
    }

    public int jumps(int slot, int most) {
        Order order = orderIn(slot);
        if (order == null || !isBit(most)) {
            return REFUSED;
        }
        return jumpTable.extreme(order, most == 1);
    }

    public int jumper(int slot, int most, int i) {
        Order order = orderWith(slot, i);
        if (order == null || !isBit(most)) {
            return REFUSED;
        }
        return jumpTable.thingAt(order, most == 1, i);
    }

    public int jumpsOf(int slot, int row) {
        Order order = orderWithRow(slot, row);
        return order == null ? REFUSED : order.jumpsIn(row);
    }

    public int critical(int slot, int k) {
        Order order = orderIn(slot);
        if (order == null || k < NONE) {
            return REFUSED;
        }
        search.collect(order);
        return k == NONE ? search.size() : search.twoAt(k);
    }

    public int reversed(int slot, int row) {
        Order order = orderWithRow(slot, row);
        if (order == null) {
            return REFUSED;
        }
        search.collect(order);
        return search.turnedBy(order, row);
    }

    public int rowsAre(int slot, int what) {
        Order order = orderIn(slot);
        if (order == null) {
            return REFUSED;
        }
        switch (what) {
            case 0: return bit(order.allRowsAreLines());
            case 1: return bit(order.rowsRealize());
            case 2: return bit(order.rows().allUnlike(order.size()));
            default: return REFUSED;
        }
    }

    public int ahead(int slot, int thing) {
        Order order = orderWith(slot, thing);
        return order == null ? REFUSED : order.alwaysAheadOf(thing);
    }

    public int realizes(int slot, int t, int tries) {
        Order order = orderIn(slot);
        if (order == null || t < 1 || t > MOST_PLACES || !areTries(tries)) {
            return REFUSED;
        }
        int answer = search.run(order, t, tries);
        if (answer >= 0) {
            next.copyFrom(order);
            search.writeRows(order, t, next.rows());
            become(slot);
        }
        return answer;
    }

    public int dimension(int slot, int tries) {
        Order order = orderIn(slot);
        if (order == null || !areTries(tries)) {
            return REFUSED;
        }
        for (int t = 1; t <= MOST_PLACES; t++) {
            int answer = search.run(order, t, tries);
            if (answer != NONE) {
                return answer == TOO_LONG ? TOO_LONG : t;
            }
        }
        return NONE;
    }

    public int row(int slot, int row, int i) {
        Order order = orderWithRow(slot, row);
        if (order == null || !order.has(i)) {
            return REFUSED;
        }
        return order.rows().thingAt(row, i);
    }

    public int adds(int slot, int k) {
        Order order = orderIn(slot);
        if (order == null || k < 0) {
            return REFUSED;
        }
        if (k >= linesOf(order).total()) {
            return NONE;
        }
        if (order.rows().size() >= MOST_ROWS) {
            return FULL;
        }
        next.copyFrom(order);
        int row = next.rows().open();
        for (int i = 0; i < order.size(); i++) {
            next.rows().put(row, i, lineTable.thingAt(order, k, i));
        }
        become(slot);
        return next.rows().size();
    }

    public int takes(int slot, int row) {
        Order order = orderWithRow(slot, row);
        if (order == null) {
            return REFUSED;
        }
        next.copyFrom(order);
        next.rows().remove(row);
        become(slot);
        return next.rows().size();
    }

    public int puts(int slot, int a, int b) {
        Order order = orderWith(slot, a);
        if (order == null || !order.has(b)) {
            return REFUSED;
        }
        if (a == b || order.under(b, a)) {
            return CAN_NOT;
        }
        next.copyFrom(order);
        int more = next.link(a, b);
        become(slot);
        return more;
    }

    public int cuts(int slot, int a, int b) {
        Order order = orderWith(slot, a);
        if (order == null || !order.has(b)) {
            return REFUSED;
        }
        if ((order.coveredBy(b) >> a & 1) == 0) {
            return CAN_NOT;
        }
        next.copyFrom(order);
        next.unlink(a, b);
        become(slot);
        return next.twos();
    }

    public int flip(int slot) {
        Order order = orderIn(slot);
        if (order == null) {
            return REFUSED;
        }
        next.copyFrom(order);
        next.turnOver();
        become(slot);
        return chains.height(next);
    }

    public int without(int slot, int thing) {
        Order order = orderWith(slot, thing);
        if (order == null) {
            return REFUSED;
        }
        if (order.size() == 1) {
            return CAN_NOT;
        }
        next.copyFrom(order);
        next.leaveOut(thing);
        become(slot);
        return next.size();
    }

    public int joins(int slot, int other, int above, int to) {
        Order one = orderIn(slot);
        Order two = orderIn(other);
        if (one == null || two == null || !isBit(above) || !isSlot(to)) {
            return REFUSED;
        }
        if (one.size() + two.size() > MOST_THINGS) {
            return FULL;
        }
        next.unite(one, two, above == 1);
        become(to);
        return next.size();
    }

    public int alike(int slot, int other) {
        Order one = orderIn(slot);
        Order two = orderIn(other);
        if (one == null || two == null) {
            return REFUSED;
        }
        return bit(likeness.between(one, two));
    }

    public int selves(int slot) {
        Order order = orderIn(slot);
        return order == null ? REFUSED : likeness.waysOf(order);
    }

    public int drops(int slot) {
        if (!isSlot(slot)) {
            return REFUSED;
        }
        boolean had = orderIn(slot) != null;
        next.begin(0);
        become(slot);
        return bit(had);
    }

    public int undo() {
        int slot = past.latestSlot();
        if (!isSlot(slot)) {
            return NONE;
        }
        past.giveBack(slots[slot]);
        return past.size();
    }

    public int tell(int slot) {
        Order order = orderIn(slot);
        if (order == null) {
            return REFUSED;
        }
        out.shorten(0);
        order.writeTo(out);
        return out.size();
    }

    public int octet(int i) {
        return out.byteAt(i);
    }

    private static boolean isSlot(int slot) {
        return slot >= 0 && slot < SLOT_COUNT;
    }

    private static boolean isBit(int number) {
        return number == 0 || number == 1;
    }

    private static boolean areTries(int tries) {
        return tries >= 1 && tries <= MOST_TRIES;
    }

    private static int bit(boolean holds) {
        return holds ? 1 : 0;
    }

    private Order orderIn(int slot) {
        if (!isSlot(slot) || slots[slot].size() == 0) {
            return null;
        }
        return slots[slot];
    }

    // Places in a row go as far as things do, so this looks at a place too.
    private Order orderWith(int slot, int thing) {
        Order order = orderIn(slot);
        return order == null || !order.has(thing) ? null : order;
    }

    private Order orderWithRow(int slot, int row) {
        Order order = orderIn(slot);
        return order == null || !order.rows().has(row) ? null : order;
    }

    private Lines linesOf(Order order) {
        lineTable.fill(order);
        return lineTable;
    }

    private int filledSlots() {
        int filled = 0;
        for (int slot = 0; slot < SLOT_COUNT; slot++) {
            if (orderIn(slot) != null) {
                filled |= 1 << slot;
            }
        }
        return filled;
    }

    // Only what makes a slot otherwise is an act that can be undone.
    private void become(int slot) {
        if (!isSlot(slot) || slots[slot].sameAs(next)) {
            return;
        }
        past.keep(slot, slots[slot]);
        slots[slot].copyFrom(next);
    }

    private static int commonDivisor(int a, int b) {
        int high = a;
        int low = b;
        // Euclid halves the numbers every two steps, so 64 are enough for all ints.
        for (int step = 0; step < 64 && low != 0; step++) {
            int rest = high % low;
            high = low;
            low = rest;
        }
        return high;
    }

    /** Bytes one behind the other, up to a bound. */
    private static final class Bytes {
        private final int[] held;
        private int size;

        Bytes(int most) {
            held = new int[Math.max(most, 0)];
        }

        int size() {
            return size;
        }

        void put(int octet) {
            if (size < held.length) {
                held[size] = octet & 255;
                size++;
            }
        }

        void putFour(int number) {
            put(number >> 24);
            put(number >> 16);
            put(number >> 8);
            put(number);
        }

        void putWord(String word) {
            for (int i = 0; i < word.length(); i++) {
                put(word.charAt(i));
            }
        }

        void putDigit(int digit) {
            put('0' + digit);
        }

        void shorten(int to) {
            if (to >= 0 && to < size) {
                size = to;
            }
        }

        int byteAt(int i) {
            return i >= 0 && i < size ? held[i] : NONE;
        }
    }

    /** Rows of things, each with a fixed share of one array. */
    private static final class Rows {
        private final int[] held = new int[MOST_ROWS * MOST_THINGS];
        private int size;

        int size() {
            return size;
        }

        boolean has(int row) {
            return row >= 0 && row < size;
        }

        void clear() {
            size = 0;
        }

        /** A row more, to be filled by put: its number; the last one, if there are as many as can be. */
        int open() {
            if (size < MOST_ROWS) {
                size++;
            }
            return size - 1;
        }

        private static boolean isPlace(int row, int i) {
            return row >= 0 && row < MOST_ROWS && i >= 0 && i < MOST_THINGS;
        }

        int thingAt(int row, int i) {
            return isPlace(row, i) ? held[row * MOST_THINGS + i] : NONE;
        }

        void put(int row, int i, int thing) {
            if (isPlace(row, i)) {
                held[row * MOST_THINGS + i] = thing;
            }
        }

        int placeOf(int row, int thing, int things) {
            for (int i = 0; i < things; i++) {
                if (thingAt(row, i) == thing) {
                    return i;
                }
            }
            return NONE;
        }

        boolean comesAhead(int row, int a, int b, int things) {
            return placeOf(row, a, things) < placeOf(row, b, things);
        }

        boolean sameRow(int row, Rows other, int otherRow, int things) {
            for (int i = 0; i < things; i++) {
                if (thingAt(row, i) != other.thingAt(otherRow, i)) {
                    return false;
                }
            }
            return true;
        }

        boolean sameAs(Rows other, int things) {
            if (size != other.size) {
                return false;
            }
            for (int row = 0; row < size; row++) {
                if (!sameRow(row, other, row, things)) {
                    return false;
                }
            }
            return true;
        }

        boolean allUnlike(int things) {
            for (int row = 1; row < size; row++) {
                for (int earlier = 0; earlier < row; earlier++) {
                    if (sameRow(row, this, earlier, things)) {
                        return false;
                    }
                }
            }
            return true;
        }

        void copyFrom(Rows other) {
            size = other.size;
            System.arraycopy(other.held, 0, held, 0, held.length);
        }

        void remove(int row) {
            if (!has(row)) {
                return;
            }
            for (int moved = row + 1; moved < size; moved++) {
                for (int i = 0; i < MOST_THINGS; i++) {
                    put(moved - 1, i, thingAt(moved, i));
                }
            }
            size--;
        }

        void turnOver(int things) {
            for (int row = 0; row < size; row++) {
                for (int i = 0, j = things - 1; i < j; i++, j--) {
                    int first = thingAt(row, i);
                    put(row, i, thingAt(row, j));
                    put(row, j, first);
                }
            }
        }

        void leaveOut(int thing, int things) {
            for (int row = 0; row < size; row++) {
                int to = 0;
                for (int i = 0; i < things; i++) {
                    int kept = thingAt(row, i);
                    if (kept != thing) {
                        put(row, to, kept > thing ? kept - 1 : kept);
                        to++;
                    }
                }
            }
        }
    }

    /** Things of which some are below others, always with all that follows, and rows of them. */
    private static final class Order {
        private final int[] below = new int[MOST_THINGS];
        private final int[] above = new int[MOST_THINGS];
        private final Rows rows = new Rows();
        // No things: a slot that has nothing.
        private int size;

        int size() {
            return size;
        }

        Rows rows() {
            return rows;
        }

        boolean has(int thing) {
            return thing >= 0 && thing < size;
        }

        int all() {
            return (1 << size) - 1;
        }

        /** Things all free of one another, no rows. */
        void begin(int things) {
            size = things >= 0 && things <= MOST_THINGS ? things : 0;
            rows.clear();
            for (int thing = 0; thing < MOST_THINGS; thing++) {
                below[thing] = 0;
                above[thing] = 0;
            }
        }

        void copyFrom(Order other) {
            size = other.size;
            System.arraycopy(other.below, 0, below, 0, MOST_THINGS);
            System.arraycopy(other.above, 0, above, 0, MOST_THINGS);
            rows.copyFrom(other.rows);
        }

        boolean sameAs(Order other) {
            if (size != other.size) {
                return false;
            }
            for (int thing = 0; thing < size; thing++) {
                if (below[thing] != other.below[thing]) {
                    return false;
                }
            }
            return rows.sameAs(other.rows, size);
        }

        int belowOf(int thing) {
            return has(thing) ? below[thing] : 0;
        }

        int aboveOf(int thing) {
            return has(thing) ? above[thing] : 0;
        }

        int freeOf(int thing) {
            return has(thing) ? all() & ~(below[thing] | above[thing] | 1 << thing) : 0;
        }

        boolean under(int a, int b) {
            return has(a) && has(b) && (below[b] >> a & 1) == 1;
        }

        int coveredBy(int thing) {
            int found = belowOf(thing);
            for (int between = 0; between < size; between++) {
                if (under(between, thing)) {
                    found &= ~below[between];
                }
            }
            return found;
        }

        int coversOf(int thing) {
            int found = aboveOf(thing);
            for (int between = 0; between < size; between++) {
                if (under(thing, between)) {
                    found &= ~above[between];
                }
            }
            return found;
        }

        int twos() {
            int found = 0;
            for (int thing = 0; thing < size; thing++) {
                found += Integer.bitCount(below[thing]);
            }
            return found;
        }

        int freeTwos() {
            return size * (size - 1) / 2 - twos();
        }

        int covers() {
            int found = 0;
            for (int thing = 0; thing < size; thing++) {
                found += Integer.bitCount(coveredBy(thing));
            }
            return found;
        }

        boolean isIdeal(int set) {
            for (int thing = 0; thing < size; thing++) {
                if ((set >> thing & 1) == 1 && (below[thing] & ~set) != 0) {
                    return false;
                }
            }
            return true;
        }

        /** Whether a thing can come next in a line that began with a set. */
        boolean canFollow(int set, int thing) {
            return has(thing) && (set >> thing & 1) == 0 && (below[thing] & ~set) == 0;
        }

        /** Puts a below b, which must not be below a: how many twos came. */
        int link(int a, int b) {
            if (!has(a) || !has(b)) {
                return 0;
            }
            int had = twos();
            int low = below[a] | 1 << a;
            int high = above[b] | 1 << b;
            for (int thing = 0; thing < size; thing++) {
                if ((low >> thing & 1) == 1) {
                    above[thing] |= high;
                }
                if ((high >> thing & 1) == 1) {
                    below[thing] |= low;
                }
            }
            return twos() - had;
        }

        /** A cover alone can go by itself: nothing else makes a below b follow. */
        void unlink(int a, int b) {
            if (has(a) && has(b)) {
                below[b] &= ~(1 << a);
                above[a] &= ~(1 << b);
            }
        }

        void turnOver() {
            for (int thing = 0; thing < size; thing++) {
                int low = below[thing];
                below[thing] = above[thing];
                above[thing] = low;
            }
            rows.turnOver(size);
        }

        void leaveOut(int thing) {
            if (!has(thing)) {
                return;
            }
            rows.leaveOut(thing, size);
            for (int from = 0; from < size; from++) {
                int to = from > thing ? from - 1 : from;
                if (from != thing) {
                    below[to] = closeGap(below[from], thing);
                    above[to] = closeGap(above[from], thing);
                }
            }
            size--;
        }

        private static int closeGap(int set, int thing) {
            int lesser = set & (1 << thing) - 1;
            return lesser | set >> thing + 1 << thing;
        }

        /** Becomes two orders beside one another, or the second above all of the first. */
        void unite(Order one, Order two, boolean stacked) {
            int shift = one.size;
            begin(shift + two.size);
            for (int thing = 0; thing < size; thing++) {
                if (thing < shift) {
                    below[thing] = one.belowOf(thing);
                    above[thing] = one.aboveOf(thing) | (stacked ? two.all() << shift : 0);
                } else {
                    below[thing] = two.belowOf(thing - shift) << shift | (stacked ? one.all() : 0);
                    above[thing] = two.aboveOf(thing - shift) << shift;
                }
            }
        }

        int jumpsIn(int row) {
            int found = 0;
            for (int i = 1; i < size; i++) {
                if (!under(rows.thingAt(row, i - 1), rows.thingAt(row, i))) {
                    found++;
                }
            }
            return found;
        }

        boolean allRowsAreLines() {
            for (int row = 0; row < rows.size(); row++) {
                int begun = 0;
                for (int i = 0; i < size; i++) {
                    int thing = rows.thingAt(row, i);
                    if (!canFollow(begun, thing)) {
                        return false;
                    }
                    begun |= 1 << thing;
                }
            }
            return true;
        }

        boolean rowsRealize() {
            if (rows.size() == 0 || !allRowsAreLines()) {
                return false;
            }
            for (int thing = 0; thing < size; thing++) {
                // A free thing that is ahead in every row is never behind.
                if ((alwaysAheadOf(thing) & freeOf(thing)) != 0) {
                    return false;
                }
            }
            return true;
        }

        int alwaysAheadOf(int thing) {
            int found = all() & ~(1 << thing);
            for (int row = 0; row < rows.size(); row++) {
                for (int other = 0; other < size; other++) {
                    if (!rows.comesAhead(row, other, thing, size)) {
                        found &= ~(1 << other);
                    }
                }
            }
            return found;
        }

        void writeTo(Bytes out) {
            out.putWord("order ");
            out.putDigit(size);
            boolean first = true;
            for (int a = 0; a < size; a++) {
                int over = coversOf(a);
                for (int b = 0; b < size; b++) {
                    if ((over >> b & 1) == 1) {
                        out.put(first ? ':' : ',');
                        out.putDigit(a);
                        out.put('<');
                        out.putDigit(b);
                        first = false;
                    }
                }
            }
            out.put(';');
            writeRows(out);
        }

        private void writeRows(Bytes out) {
            for (int row = 0; row < rows.size(); row++) {
                out.putWord("row ");
                for (int i = 0; i < size; i++) {
                    out.putDigit(rows.thingAt(row, i));
                }
                out.put(';');
            }
        }
    }

    /** The latest acts: which slot each changed, and what that slot was ahead of it. */
    private static final class Past {
        private final Order[] kept = new Order[MOST_UNDONE];
        private final int[] slotOf = new int[MOST_UNDONE];
        // Where the next one goes; round and round, so that the oldest is overwritten.
        private int head;
        private int size;

        Past() {
            for (int i = 0; i < MOST_UNDONE; i++) {
                kept[i] = new Order();
            }
        }

        int size() {
            return size;
        }

        private int latest() {
            return head == 0 ? MOST_UNDONE - 1 : head - 1;
        }

        void keep(int slot, Order was) {
            kept[head].copyFrom(was);
            slotOf[head] = slot;
            head = head + 1 < MOST_UNDONE ? head + 1 : 0;
            size = Math.min(size + 1, MOST_UNDONE);
        }

        int latestSlot() {
            return size == 0 ? NONE : slotOf[latest()];
        }

        void giveBack(Order into) {
            if (size > 0) {
                head = latest();
                into.copyFrom(kept[head]);
                size--;
            }
        }
    }

    /** Reads a text from the tape, token by token, up to its first fault. */
    private static final class Reader {
        private static final int END = 0;
        private static final int WORD = 1;
        private static final int DIGITS = 2;
        private static final int SIGN = 3;
        // Above every bound, and small enough that ten times it is an int.
        private static final int TOO_GREAT = 1000;

        private final Bytes tape;
        private int kind;
        private int start;
        private int stop;
        private int faultKind;
        private int faultPlace = NONE;

        Reader(Bytes tape) {
            this.tape = tape;
        }

        int faultKind() {
            return faultKind;
        }

        int faultPlace() {
            return faultPlace;
        }

        boolean read(Order into) {
            stop = 0;
            faultKind = 0;
            faultPlace = NONE;
            advance();
            return readHead(into) && readTwos(into) && readRows(into);
        }

        private boolean readHead(Order into) {
            if (!isWord("order")) {
                return refuse(1);
            }
            advance();
            if (kind != DIGITS) {
                return refuse(1);
            }
            int things = number();
            if (things < 1 || things > MOST_THINGS) {
                return refuse(2);
            }
            into.begin(things);
            advance();
            return true;
        }

        private boolean readTwos(Order into) {
            boolean more = isSign(':');
            for (int turn = 0; more && turn < MOST_TAPE; turn++) {
                advance();
                if (!readClimb(into)) {
                    return false;
                }
                more = isSign(',');
            }
            return passSemicolon();
        }

        private boolean readClimb(Order into) {
            int lower = thingHere(into);
            if (lower == NONE) {
                return false;
            }
            advance();
            if (!isSign('<')) {
                return refuse(1);
            }
            for (int turn = 0; isSign('<') && turn < MOST_TAPE; turn++) {
                advance();
                int upper = thingHere(into);
                if (upper == NONE) {
                    return false;
                }
                if (upper == lower || into.under(upper, lower)) {
                    return refuse(3);
                }
                into.link(lower, upper);
                lower = upper;
                advance();
            }
            return true;
        }

        private boolean readRows(Order into) {
            for (int turn = 0; kind != END && turn < MOST_TAPE; turn++) {
                if (!isWord("row")) {
                    return refuse(1);
                }
                if (into.rows().size() >= MOST_ROWS) {
                    return refuse(5);
                }
                advance();
                if (kind != DIGITS) {
                    return refuse(1);
                }
                if (!isRowOf(into)) {
                    return refuse(4);
                }
                takeRow(into);
                advance();
                if (!passSemicolon()) {
                    return false;
                }
            }
            return true;
        }

        private boolean isRowOf(Order order) {
            if (stop - start != order.size()) {
                return false;
            }
            int seen = 0;
            for (int i = start; i < stop; i++) {
                int thing = tape.byteAt(i) - '0';
                if (!order.has(thing) || (seen >> thing & 1) == 1) {
                    return false;
                }
                seen |= 1 << thing;
            }
            return true;
        }

        private void takeRow(Order into) {
            int row = into.rows().open();
            for (int i = start; i < stop; i++) {
                into.rows().put(row, i - start, tape.byteAt(i) - '0');
            }
        }

        private int thingHere(Order order) {
            if (kind != DIGITS) {
                refuse(1);
                return NONE;
            }
            int thing = number();
            if (!order.has(thing)) {
                refuse(2);
                return NONE;
            }
            return thing;
        }

        private boolean passSemicolon() {
            if (!isSign(';')) {
                return refuse(1);
            }
            advance();
            return true;
        }

        private boolean refuse(int fault) {
            faultKind = fault;
            faultPlace = start;
            return false;
        }

        private void advance() {
            start = stop;
            while (start < tape.size() && isBlank(tape.byteAt(start))) {
                start++;
            }
            int here = tape.byteAt(start);
            if (here == NONE) {
                kind = END;
                stop = start;
            } else if (here >= 'a' && here <= 'z') {
                kind = WORD;
                stop = runEnd('a', 'z');
            } else if (here >= '0' && here <= '9') {
                kind = DIGITS;
                stop = runEnd('0', '9');
            } else {
                kind = SIGN;
                stop = start + 1;
            }
        }

        private int runEnd(int least, int greatest) {
            int i = start;
            while (i < tape.size() && tape.byteAt(i) >= least && tape.byteAt(i) <= greatest) {
                i++;
            }
            return i;
        }

        private static boolean isBlank(int octet) {
            return octet == 32 || octet == 10;
        }

        private boolean isWord(String word) {
            if (kind != WORD || stop - start != word.length()) {
                return false;
            }
            for (int i = 0; i < word.length(); i++) {
                if (tape.byteAt(start + i) != word.charAt(i)) {
                    return false;
                }
            }
            return true;
        }

        private boolean isSign(int sign) {
            return kind == SIGN && tape.byteAt(start) == sign;
        }

        private int number() {
            int value = 0;
            for (int i = start; i < stop; i++) {
                value = Math.min(value * 10 + tape.byteAt(i) - '0', TOO_GREAT);
            }
            return value;
        }
    }

    /** What an order holds or lacks, told by its sets of things. */
    private static final class Shapes {
        /** The most things all free of one another; of as many the least number. */
        static int widest(Order order) {
            int best = 0;
            for (int set = 1; set <= order.all(); set++) {
                if (Integer.bitCount(set) > Integer.bitCount(best) && isFreeSet(order, set)) {
                    best = set;
                }
            }
            return best;
        }

        private static boolean isFreeSet(Order order, int set) {
            for (int thing = 0; thing < order.size(); thing++) {
                if ((set >> thing & 1) == 1 && (order.belowOf(thing) & set) != 0) {
                    return false;
                }
            }
            return true;
        }

        static int ideals(Order order) {
            int found = 0;
            for (int set = 0; set <= order.all(); set++) {
                if (order.isIdeal(set)) {
                    found++;
                }
            }
            return found;
        }

        static int hangingParts(Order order) {
            int seen = 0;
            int found = 0;
            for (int thing = 0; thing < order.size(); thing++) {
                if ((seen >> thing & 1) == 0) {
                    seen |= hangingWith(order, thing);
                    found++;
                }
            }
            return found;
        }

        private static int hangingWith(Order order, int thing) {
            int reached = 1 << thing;
            // Every round but the last adds a thing, so as many rounds as things are enough.
            for (int round = 0; round < order.size(); round++) {
                for (int member = 0; member < order.size(); member++) {
                    if ((reached >> member & 1) == 1) {
                        reached |= order.belowOf(member) | order.aboveOf(member);
                    }
                }
            }
            return reached;
        }

        static boolean hasN(Order order) {
            for (int a = 0; a < order.size(); a++) {
                for (int c = 0; c < order.size(); c++) {
                    if (order.under(a, c) && isLeftOfN(order, a, c)) {
                        return true;
                    }
                }
            }
            return false;
        }

        private static boolean isLeftOfN(Order order, int a, int c) {
            int others = order.belowOf(c) & order.freeOf(a);
            int freeOfBoth = order.freeOf(a) & order.freeOf(c);
            for (int b = 0; b < order.size(); b++) {
                if ((others >> b & 1) == 1 && (order.aboveOf(b) & freeOfBoth) != 0) {
                    return true;
                }
            }
            return false;
        }

        static boolean hasTwoAndTwo(Order order) {
            for (int a = 0; a < order.size(); a++) {
                for (int b = 0; b < order.size(); b++) {
                    int beside = order.freeOf(a) & order.freeOf(b);
                    if (order.under(a, b) && !isFreeSet(order, beside)) {
                        return true;
                    }
                }
            }
            return false;
        }

        static boolean hasThreeAndOne(Order order) {
            for (int b = 0; b < order.size(); b++) {
                for (int a = 0; a < order.size(); a++) {
                    for (int c = 0; c < order.size(); c++) {
                        int beside = order.freeOf(a) & order.freeOf(b) & order.freeOf(c);
                        if (order.under(a, b) && order.under(b, c) && beside != 0) {
                            return true;
                        }
                    }
                }
            }
            return false;
        }

        static boolean isLattice(Order order) {
            for (int a = 0; a < order.size(); a++) {
                for (int b = a + 1; b < order.size(); b++) {
                    int over = upFrom(order, a) & upFrom(order, b);
                    int beneath = downFrom(order, a) & downFrom(order, b);
                    if (!hasLeast(order, over) || !hasGreatest(order, beneath)) {
                        return false;
                    }
                }
            }
            return true;
        }

        private static int upFrom(Order order, int thing) {
            return order.aboveOf(thing) | 1 << thing;
        }

        private static int downFrom(Order order, int thing) {
            return order.belowOf(thing) | 1 << thing;
        }

        private static boolean hasLeast(Order order, int set) {
            for (int thing = 0; thing < order.size(); thing++) {
                if ((set >> thing & 1) == 1 && (set & ~upFrom(order, thing)) == 0) {
                    return true;
                }
            }
            return false;
        }

        private static boolean hasGreatest(Order order, int set) {
            for (int thing = 0; thing < order.size(); thing++) {
                if ((set >> thing & 1) == 1 && (set & ~downFrom(order, thing)) == 0) {
                    return true;
                }
            }
            return false;
        }
    }

    /** Chains: the longest, and the fewest that have all things. */
    private static final class Chains {
        private final int[] depths = new int[MOST_THINGS];
        private final int[] chosen = new int[MOST_THINGS];
        private final int[] members = new int[MOST_THINGS];

        int depth(Order order, int thing, boolean upward) {
            measure(order, upward);
            return order.has(thing) ? depths[thing] : 0;
        }

        int height(Order order) {
            measure(order, true);
            int most = 0;
            for (int thing = 0; thing < order.size(); thing++) {
                most = Math.max(most, depths[thing]);
            }
            return most;
        }

        // Depths count the things of the longest chain that begins (upward) or ends with each thing.
        private void measure(Order order, boolean upward) {
            for (int thing = 0; thing < MOST_THINGS; thing++) {
                depths[thing] = 1;
            }
            for (int round = 1; round < order.size(); round++) {
                for (int thing = 0; thing < order.size(); thing++) {
                    depths[thing] = 1 + deepest(order, upward ? order.aboveOf(thing) : order.belowOf(thing));
                }
            }
        }

        private int deepest(Order order, int set) {
            int most = 0;
            for (int thing = 0; thing < order.size(); thing++) {
                if ((set >> thing & 1) == 1) {
                    most = Math.max(most, depths[thing]);
                }
            }
            return most;
        }

        int longestAt(Order order, int k) {
            int left = height(order);
            if (k >= left) {
                return NONE;
            }
            int set = order.all();
            int thing = NONE;
            for (int step = 0; step <= k; step++) {
                thing = leastOfDepth(order, set, left);
                set = order.aboveOf(thing);
                left--;
            }
            return thing;
        }

        private int leastOfDepth(Order order, int set, int wanted) {
            for (int thing = 0; thing < order.size(); thing++) {
                if ((set >> thing & 1) == 1 && depths[thing] == wanted) {
                    return thing;
                }
            }
            return NONE;
        }

        boolean isLevelled(Order order) {
            measure(order, false);
            for (int low = 0; low < order.size(); low++) {
                int over = order.coversOf(low);
                for (int high = 0; high < order.size(); high++) {
                    if ((over >> high & 1) == 1 && depths[high] != depths[low] + 1) {
                        return false;
                    }
                }
            }
            return true;
        }

        int chainOf(Order order, int thing) {
            // As few chains as can be are as many as things can be free of one another.
            int fewest = Integer.bitCount(Shapes.widest(order));
            for (int chain = 0; chain < MOST_THINGS; chain++) {
                members[chain] = 0;
            }
            divide(order, chosen, members, 0, 0, fewest);
            return order.has(thing) ? chosen[thing] : NONE;
        }

        // Carries each thing into the least chain that leaves a way for all behind it; goes as deep as there are things.
        private static boolean divide(Order order, int[] chosen, int[] members, int thing, int begun, int most) {
            if (!order.has(thing)) {
                return true;
            }
            for (int chain = 0; chain <= begun && chain < most && chain < MOST_THINGS; chain++) {
                if ((members[chain] & order.freeOf(thing)) == 0) {
                    members[chain] |= 1 << thing;
                    chosen[thing] = chain;
                    if (divide(order, chosen, members, thing + 1, Math.max(begun, chain + 1), most)) {
                        return true;
                    }
                    members[chain] &= ~(1 << thing);
                }
            }
            return false;
        }
    }

    /** Lines counted by the sets that they begin with; fill() tells of which order. */
    private static final class Lines {
        // In how many ways things of a set can stand first, and those not in it behind them.
        private final int[] begun = new int[SETS];
        private final int[] rest = new int[SETS];

        void fill(Order order) {
            int all = order.all();
            for (int set = 0; set < SETS; set++) {
                begun[set] = 0;
                rest[set] = 0;
            }
            begun[0] = 1;
            for (int set = 0; set < all; set++) {
                for (int thing = 0; begun[set] > 0 && thing < order.size(); thing++) {
                    if (order.canFollow(set, thing)) {
                        begun[set | 1 << thing] += begun[set];
                    }
                }
            }
            rest[all] = 1;
            for (int set = all - 1; set >= 0; set--) {
                for (int thing = 0; begun[set] > 0 && thing < order.size(); thing++) {
                    if (order.canFollow(set, thing)) {
                        rest[set] += rest[set | 1 << thing];
                    }
                }
            }
        }

        int total() {
            return rest[0];
        }

        /** The thing at a place of the k-th line; NONE: there are not so many. */
        int thingAt(Order order, int k, int place) {
            if (k < 0 || k >= total()) {
                return NONE;
            }
            int left = k;
            int set = 0;
            int thing = NONE;
            for (int i = 0; i <= place && i < order.size(); i++) {
                for (thing = 0; thing < order.size(); thing++) {
                    int ways = waysWith(order, set, thing);
                    if (left < ways) {
                        break;
                    }
                    left -= ways;
                }
                set |= 1 << thing;
            }
            return thing;
        }

        // Lines that go on behind a set with this thing.
        private int waysWith(Order order, int set, int thing) {
            return order.canFollow(set, thing) ? rest[(set | 1 << thing) & SETS - 1] : 0;
        }

        /** The how-manieth line a row is; NONE: it is none. */
        int numberOf(Order order, int row) {
            int number = 0;
            int set = 0;
            for (int i = 0; i < order.size(); i++) {
                int thing = order.rows().thingAt(row, i);
                if (!order.canFollow(set, thing)) {
                    return NONE;
                }
                for (int lesser = 0; lesser < thing; lesser++) {
                    number += waysWith(order, set, lesser);
                }
                set |= 1 << thing;
            }
            return number;
        }

        int thatBeginWith(int set) {
            return set >= 0 && set < SETS ? begun[set] * rest[set] : 0;
        }

        int withFirstAhead(Order order, int a, int b) {
            int found = 0;
            for (int set = 0; set < order.all(); set++) {
                if ((set >> a & 1) == 1) {
                    found += begun[set] * waysWith(order, set, b);
                }
            }
            return found;
        }

        int withThingAt(Order order, int thing, int place) {
            int found = 0;
            for (int set = 0; set < order.all(); set++) {
                if (Integer.bitCount(set) == place) {
                    found += begun[set] * waysWith(order, set, thing);
                }
            }
            return found;
        }

        int placeSum(Order order, int thing) {
            int sum = 0;
            for (int place = 1; place < order.size(); place++) {
                sum += place * withThingAt(order, thing, place);
            }
            return sum;
        }

        /** Ten times the lesser of the free two balanced best, and the other; NONE: none are free. */
        int bestBalanced(Order order) {
            int best = NONE;
            int least = 0;
            for (int a = 0; a < order.size(); a++) {
                for (int b = a + 1; b < order.size(); b++) {
                    if ((order.freeOf(a) >> b & 1) == 1) {
                        int off = Math.abs(2 * withFirstAhead(order, a, b) - total());
                        if (best == NONE || off < least) {
                            best = 10 * a + b;
                            least = off;
                        }
                    }
                }
            }
            return best;
        }
    }

    /** Lines with the fewest or the most jumps. */
    private static final class Jumps {
        // By the set that a line began with and the last thing of it: the best that jumps still to come can be.
        private final int[] best = new int[SETS * MOST_THINGS];

        int extreme(Order order, boolean most) {
            measure(order, most);
            return worth(order, 0, NONE, pick(order, 0, NONE, most));
        }

        int thingAt(Order order, boolean most, int place) {
            measure(order, most);
            int set = 0;
            int thing = NONE;
            for (int i = 0; i <= place && i < order.size(); i++) {
                thing = pick(order, set, thing, most);
                set |= 1 << thing;
            }
            return thing;
        }

        private void measure(Order order, boolean most) {
            for (int set = order.all(); set > 0; set--) {
                boolean ideal = order.isIdeal(set);
                for (int last = 0; ideal && last < order.size(); last++) {
                    if ((set >> last & 1) == 1) {
                        best[set * MOST_THINGS + last] = worth(order, set, last, pick(order, set, last, most));
                    }
                }
            }
        }

        // The least of the things that can come next with the best outcome; NONE: all have come.
        private int pick(Order order, int set, int last, boolean most) {
            int picked = NONE;
            int pickedWorth = 0;
            for (int thing = 0; thing < order.size(); thing++) {
                if (order.canFollow(set, thing)) {
                    int found = worth(order, set, last, thing);
                    if (picked == NONE || (most ? found > pickedWorth : found < pickedWorth)) {
                        picked = thing;
                        pickedWorth = found;
                    }
                }
            }
            return picked;
        }

        private int worth(Order order, int set, int last, int thing) {
            if (!order.has(thing)) {
                return 0;
            }
            int jump = last == NONE || order.under(last, thing) ? 0 : 1;
            return jump + best[((set | 1 << thing) & SETS - 1) * MOST_THINGS + thing];
        }
    }

    /** Critical twos, and the search for lines that turn them all. */
    private static final class Search {
        private final int[] firsts = new int[MOST_TWOS];
        private final int[] seconds = new int[MOST_TWOS];
        private final int[] placeOf = new int[MOST_TWOS];
        // How many places had something ahead of each two.
        private final int[] usedAhead = new int[MOST_TWOS + 1];
        // By place and thing: what must come behind the thing there; and that of the place ahead of each two put there.
        private final int[] behind = new int[MOST_PLACES * MOST_THINGS];
        private final int[] saved = new int[MOST_TWOS * MOST_THINGS];
        private int size;

        int size() {
            return size;
        }

        int twoAt(int k) {
            return k >= 0 && k < size ? 10 * firsts[k] + seconds[k] : NONE;
        }

        void collect(Order order) {
            size = 0;
            for (int a = 0; a < order.size(); a++) {
                for (int b = 0; b < order.size(); b++) {
                    if (size < MOST_TWOS && isCritical(order, a, b)) {
                        firsts[size] = a;
                        seconds[size] = b;
                        size++;
                    }
                }
            }
        }

        private static boolean isCritical(Order order, int a, int b) {
            return (order.freeOf(a) >> b & 1) == 1
                    && (order.belowOf(a) & ~order.belowOf(b)) == 0
                    && (order.aboveOf(b) & ~order.aboveOf(a)) == 0;
        }

        int turnedBy(Order order, int row) {
            int found = 0;
            for (int k = 0; k < size; k++) {
                if (order.rows().comesAhead(row, seconds[k], firsts[k], order.size())) {
                    found++;
                }
            }
            return found;
        }

        /** How many tries it took; NONE: there is none of so many places; TOO_LONG. */
        int run(Order order, int places, int tries) {
            collect(order);
            startPlaces(order);
            int two = 0;
            int spent = 0;
            usedAhead[0] = 0;
            if (size > 0) {
                placeOf[0] = NONE;
            }
            // Each turn is a try, or goes back over a try: twice as many turns as tries, and the last one.
            for (int turn = 0; turn <= 2 * tries + 1 && two < size; turn++) {
                int place = placeOf[two] + 1;
                if (place > usedAhead[two] || place >= places) {
                    two--;
                    if (two < 0) {
                        return NONE;
                    }
                    takeOut(two);
                    continue;
                }
                if (spent == tries) {
                    return TOO_LONG;
                }
                spent++;
                placeOf[two] = place;
                if (canStand(two)) {
                    putIn(two, order);
                    two++;
                    if (two < size) {
                        placeOf[two] = NONE;
                    }
                }
            }
            return spent;
        }

        private void startPlaces(Order order) {
            for (int place = 0; place < MOST_PLACES; place++) {
                for (int thing = 0; thing < MOST_THINGS; thing++) {
                    behind[place * MOST_THINGS + thing] = order.aboveOf(thing);
                }
            }
        }

        // To turn a two, its second comes ahead of its first: that can't be where it must come behind it.
        private boolean canStand(int two) {
            int base = placeOf[two] * MOST_THINGS;
            return (behind[base + firsts[two]] >> seconds[two] & 1) == 0;
        }

        private void putIn(int two, Order order) {
            int base = placeOf[two] * MOST_THINGS;
            int later = behind[base + firsts[two]] | 1 << firsts[two];
            for (int thing = 0; thing < MOST_THINGS; thing++) {
                saved[two * MOST_THINGS + thing] = behind[base + thing];
            }
            for (int thing = 0; thing < order.size(); thing++) {
                if (thing == seconds[two] || (behind[base + thing] >> seconds[two] & 1) == 1) {
                    behind[base + thing] |= later;
                }
            }
            usedAhead[two + 1] = Math.max(usedAhead[two], placeOf[two] + 1);
        }

        private void takeOut(int two) {
            int base = placeOf[two] * MOST_THINGS;
            for (int thing = 0; thing < MOST_THINGS; thing++) {
                behind[base + thing] = saved[two * MOST_THINGS + thing];
            }
        }

        /** The first line of each place, as it stood when the search ended. */
        void writeRows(Order order, int places, Rows rows) {
            rows.clear();
            for (int place = 0; place < places && place < MOST_PLACES; place++) {
                int row = rows.open();
                int left = order.all();
                for (int i = 0; i < order.size(); i++) {
                    int thing = firstOf(order, place, left);
                    rows.put(row, i, thing);
                    left &= ~(1 << thing);
                }
            }
        }

        // The least of what is left that comes behind none of it.
        private int firstOf(Order order, int place, int left) {
            int later = 0;
            for (int thing = 0; thing < order.size(); thing++) {
                if ((left >> thing & 1) == 1) {
                    later |= behind[place * MOST_THINGS + thing];
                }
            }
            for (int thing = 0; thing < order.size(); thing++) {
                if (((left & ~later) >> thing & 1) == 1) {
                    return thing;
                }
            }
            return 0;
        }
    }

    /** Whether and in how many ways things of one order can be named as those of another. */
    private static final class Likeness {
        private final int[] names = new int[MOST_THINGS];

        boolean between(Order one, Order other) {
            return one.size() == other.size() && extend(one, other, names, 0, 0);
        }

        // Ways for all things: of each thing the names it can have while those of lesser ones stay, multiplied.
        int waysOf(Order order) {
            int ways = 1;
            int taken = 0;
            for (int thing = 0; thing < order.size(); thing++) {
                int possible = 0;
                for (int name = thing; name < order.size(); name++) {
                    if (isName(order, order, names, thing, name)) {
                        names[thing] = name;
                        possible += bit(extend(order, order, names, thing + 1, taken | 1 << name));
                    }
                }
                names[thing] = thing;
                taken |= 1 << thing;
                ways *= possible;
            }
            return ways;
        }

        // Names the things from this one on, if it can be; goes as deep as there are things.
        private static boolean extend(Order one, Order other, int[] names, int thing, int taken) {
            if (!one.has(thing)) {
                return true;
            }
            for (int name = 0; name < other.size(); name++) {
                if ((taken >> name & 1) == 0 && isName(one, other, names, thing, name)) {
                    names[thing] = name;
                    if (extend(one, other, names, thing + 1, taken | 1 << name)) {
                        return true;
                    }
                }
            }
            return false;
        }

        private static boolean isName(Order one, Order other, int[] names, int thing, int name) {
            if (Integer.bitCount(one.belowOf(thing)) != Integer.bitCount(other.belowOf(name))
                    || Integer.bitCount(one.aboveOf(thing)) != Integer.bitCount(other.aboveOf(name))) {
                return false;
            }
            for (int lesser = 0; lesser < thing; lesser++) {
                if (one.under(lesser, thing) != other.under(names[lesser], name)
                        || one.under(thing, lesser) != other.under(name, names[lesser])) {
                    return false;
                }
            }
            return true;
        }
    }
}

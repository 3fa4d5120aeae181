/** Boxes that move, and which of them overlap. */
public final class BoxFlickers {
    public static final int NONE = -10001, UNKNOWN = -10002, OUTSIDE = -10003, STATE = -10004, FULL = -10005;

    private static final int MOST_BOXES = 12;
    private static final int AXES = 3;
    private static final int FARTHEST = 999;
    private static final int FIRST_CODE = 32;
    private static final int LAST_CODE = 126;
    private static final long DIGEST_START = 1657L;

    private final Page page;
    private final Line lineX;
    private final Line lineY;
    private final Line lineZ;
    private final Ledger ledger;
    /** Of each BOX which it OVERLAPS, as bits, behind the latest CHANGE. */
    private final int[] overlaps;
    private int there;
    private boolean touching;

    public BoxFlickers() {
        page = new Page();
        lineX = new Line();
        lineY = new Line();
        lineZ = new Line();
        ledger = new Ledger();
        overlaps = new int[MOST_BOXES];
        there = 0;
        touching = false;
    }

    // ---- texts

    public int letter(int code) {
        if (code < FIRST_CODE || code > LAST_CODE) {
            return OUTSIDE;
        }
        if (!page.append(code)) {
            return FULL;
        }
        return page.size;
    }

    public int blank() {
        int had = page.size;
        page.clear();
        return had;
    }

    public int fault() {
        return page.firstWrong();
    }

    public int boxes() {
        if (!page.isBatch()) {
            return STATE;
        }
        int coming = page.batchSize();
        if (Integer.bitCount(there) + coming > MOST_BOXES) {
            return FULL;
        }
        ledger.open();
        int taken = 0;
        for (int box = 0; box < MOST_BOXES && taken < coming; box++) {
            if (!isThere(box)) {
                settle(box, taken);
                taken++;
            }
        }
        page.clear();
        rearrange();
        return coming;
    }

    // ---- changes

    public int remove(int bits) {
        if (bits == 0 || (bits & ~there) != 0) {
            return OUTSIDE;
        }
        ledger.open();
        there &= ~bits;
        rearrange();
        return Integer.bitCount(bits);
    }

    public int move(int box, int dx, int dy, int dz) {
        if (!isThere(box)) {
            return UNKNOWN;
        }
        if (!lineX.canShift(box, dx) || !lineY.canShift(box, dy) || !lineZ.canShift(box, dz)) {
            return OUTSIDE;
        }
        ledger.open();
        layOn(0, box, lineX.low[box] + dx, lineX.high[box] + dx);
        layOn(1, box, lineY.low[box] + dy, lineY.high[box] + dy);
        layOn(2, box, lineZ.low[box] + dz, lineZ.high[box] + dz);
        tellEvents();
        return ledger.allSwaps();
    }

    public int lay(int box, int axis, int low, int high) {
        if (!isThere(box) || !isAxis(axis)) {
            return UNKNOWN;
        }
        if (!isSpan(low, high)) {
            return OUTSIDE;
        }
        ledger.open();
        layOn(axis, box, low, high);
        tellEvents();
        return ledger.allSwaps();
    }

    public int touch(boolean counts) {
        int did = touching ? 1 : 0;
        ledger.open();
        touching = counts;
        rearrange();
        return did;
    }

    // ---- what is told

    public int box(int box, int what) {
        if (!isThere(box)) {
            return UNKNOWN;
        }
        switch (what) {
            case 0: return lineX.low[box];
            case 1: return lineX.high[box];
            case 2: return lineY.low[box];
            case 3: return lineY.high[box];
            case 4: return lineZ.low[box];
            case 5: return lineZ.high[box];
            case 6: return Integer.bitCount(overlaps[box]);
            case 7: return overlaps[box];
            case 8: return leastOf(groupOf(box));
            default: return OUTSIDE;
        }
    }

    public int end(int axis, int place, int what) {
        if (!isAxis(axis) || place < 0 || place >= lineOf(axis).used) {
            return UNKNOWN;
        }
        int code = lineOf(axis).order[place];
        switch (what) {
            case 0: return Line.boxOf(code);
            case 1: return Line.isHigh(code) ? 1 : 0;
            case 2: return lineOf(axis).valueOf(code);
            default: return OUTSIDE;
        }
    }

    public int meet(int a, int b) {
        if (!isThere(a) || !isThere(b) || a == b) {
            return UNKNOWN;
        }
        int axes = 0;
        for (int axis = 0; axis < AXES; axis++) {
            if (holds(lineOf(axis).meets[a], b)) {
                axes++;
            }
        }
        return axes;
    }

    public int pair(int place) {
        if (place < 0) {
            return UNKNOWN;
        }
        int ahead = 0;
        for (int a = 0; a < MOST_BOXES; a++) {
            for (int b = a + 1; b < MOST_BOXES; b++) {
                if (holds(overlaps[a], b)) {
                    if (ahead == place) {
                        return pairCode(a, b);
                    }
                    ahead++;
                }
            }
        }
        return UNKNOWN;
    }

    public int event(int place, int what) {
        if (place < 0 || place >= ledger.eventCount()) {
            return UNKNOWN;
        }
        switch (what) {
            case 0: return ledger.eventPair(place);
            case 1: return ledger.eventBegan(place) ? 1 : 0;
            default: return OUTSIDE;
        }
    }

    public int latest(int what) {
        switch (what) {
            case 0: return ledger.eventCount();
            case 1: return ledger.begun;
            case 2: return ledger.ended;
            case 3: return ledger.flickers;
            case 4: return ledger.swaps[0];
            case 5: return ledger.swaps[1];
            case 6: return ledger.swaps[2];
            default: return OUTSIDE;
        }
    }

    public int let(int box, int axis, int way) {
        if (!isThere(box) || !isAxis(axis)) {
            return UNKNOWN;
        }
        if (way != 1 && way != -1) {
            return OUTSIDE;
        }
        Line line = lineOf(axis);
        int beside = meetsOnOthers(axis, box);
        int least = line.room(box, way) + 1;
        boolean found = false;
        for (int other = 0; other < MOST_BOXES; other++) {
            if (holds(beside, other)) {
                int far = line.distanceToTurn(box, other, way);
                if (far > 0 && far < least) {
                    least = far;
                    found = true;
                }
            }
        }
        return found ? least : NONE;
    }

    public int heap(int what) {
        switch (what) {
            case 0: return groupCount();
            case 1: return greatestGroup();
            case 2: return deepest();
            case 3: return Integer.bitCount(deepest());
            default: return OUTSIDE;
        }
    }

    public int probe(int lowX, int highX, int lowY, int highY, int lowZ, int highZ) {
        if (!isSpan(lowX, highX) || !isSpan(lowY, highY) || !isSpan(lowZ, highZ)) {
            return OUTSIDE;
        }
        int found = 0;
        for (int box = 0; box < MOST_BOXES; box++) {
            if (isThere(box) && lineX.spanMeets(box, lowX, highX)
                    && lineY.spanMeets(box, lowY, highY) && lineZ.spanMeets(box, lowZ, highZ)) {
                found |= bit(box);
            }
        }
        return found;
    }

    public int count(int what) {
        switch (what) {
            case 0: return page.size;
            case 1: return Integer.bitCount(there);
            case 2: return pairCount();
            case 3: return ledger.begunEver;
            case 4: return ledger.endedEver;
            case 5: return ledger.swapsEver;
            case 6: return ledger.flickersEver;
            case 7: return ledger.changesEver;
            case 8: return touching ? 1 : 0;
            case 9: return there;
            default: return OUTSIDE;
        }
    }

    public long digest() {
        long h = DIGEST_START;
        for (int box = 0; box < MOST_BOXES; box++) {
            if (isThere(box)) {
                h = withBox(h, box);
            }
        }
        for (int axis = 0; axis < AXES; axis++) {
            h = withEnds(h, axis);
        }
        h = withPairs(h);
        h = withLatest(h);
        for (int what = 0; what <= 3; what++) {
            h = with(h, heap(what));
        }
        for (int place = 0; place < page.size; place++) {
            h = with(h, page.codes[place]);
        }
        for (int what = 0; what <= 9; what++) {
            h = with(h, count(what));
        }
        return h;
    }

    // ---- parts of the digest

    private static long with(long h, long number) {
        return 31L * h + number;
    }

    private long withBox(long h, int box) {
        long sum = with(h, box);
        for (int what = 0; what <= 8; what++) {
            sum = with(sum, box(box, what));
        }
        for (int axis = 0; axis < AXES; axis++) {
            sum = with(sum, let(box, axis, -1));
            sum = with(sum, let(box, axis, 1));
        }
        return sum;
    }

    private long withEnds(long h, int axis) {
        long sum = h;
        int ends = lineOf(axis).used;
        for (int place = 0; place < ends; place++) {
            for (int what = 0; what <= 2; what++) {
                sum = with(sum, end(axis, place, what));
            }
        }
        return sum;
    }

    private long withPairs(long h) {
        long sum = h;
        for (int a = 0; a < MOST_BOXES; a++) {
            for (int b = a + 1; b < MOST_BOXES; b++) {
                if (holds(overlaps[a], b)) {
                    sum = with(sum, pairCode(a, b));
                }
            }
        }
        return sum;
    }

    private long withLatest(long h) {
        long sum = h;
        int events = ledger.eventCount();
        for (int place = 0; place < events; place++) {
            sum = with(sum, event(place, 0));
            sum = with(sum, event(place, 1));
        }
        for (int what = 0; what <= 6; what++) {
            sum = with(sum, latest(what));
        }
        return sum;
    }

    // ---- small questions

    private static int bit(int box) {
        return 1 << box;
    }

    private static boolean holds(int bits, int box) {
        return (bits & bit(box)) != 0;
    }

    private static boolean isAxis(int axis) {
        return axis >= 0 && axis < AXES;
    }

    private static boolean isSpan(int low, int high) {
        return low >= -FARTHEST && low < high && high <= FARTHEST;
    }

    private static int pairCode(int lesser, int greater) {
        return 12 * lesser + greater;
    }

    private boolean isThere(int box) {
        return box >= 0 && box < MOST_BOXES && holds(there, box);
    }

    private Line lineOf(int axis) {
        return axis == 0 ? lineX : axis == 1 ? lineY : lineZ;
    }

    private int meetsOnAll(int box) {
        return lineX.meets[box] & lineY.meets[box] & lineZ.meets[box];
    }

    private int meetsOnOthers(int axis, int box) {
        int bits = there;
        for (int other = 0; other < AXES; other++) {
            if (other != axis) {
                bits &= lineOf(other).meets[box];
            }
        }
        return bits;
    }

    private int pairCount() {
        int twice = 0;
        for (int box = 0; box < MOST_BOXES; box++) {
            twice += Integer.bitCount(overlaps[box]);
        }
        return twice / 2;
    }

    // ---- how a change is made

    private void settle(int box, int inBatch) {
        there |= bit(box);
        for (int axis = 0; axis < AXES; axis++) {
            lineOf(axis).low[box] = page.lowOf(inBatch, axis);
            lineOf(axis).high[box] = page.highOf(inBatch, axis);
        }
    }

    /** For the CHANGES that have no SWAPS: all ENDS are put in order anew. */
    private void rearrange() {
        for (int axis = 0; axis < AXES; axis++) {
            lineOf(axis).arrange(there, touching);
        }
        tellEvents();
    }

    private void layOn(int axis, int box, int low, int high) {
        Line line = lineOf(axis);
        if (low > line.low[box]) {
            line.high[box] = high;
            putRight(axis, Line.highEnd(box));
            line.low[box] = low;
            putRight(axis, Line.lowEnd(box));
        } else {
            line.low[box] = low;
            putRight(axis, Line.lowEnd(box));
            line.high[box] = high;
            putRight(axis, Line.highEnd(box));
        }
    }

    private void putRight(int axis, int code) {
        Line line = lineOf(axis);
        int place = line.placeOf(code);
        int side = line.sideToGo(place);
        for (int step = 0; step < Line.MOST_ENDS && side != 0; step++) {
            int passed = line.order[place + side];
            line.swapWithNext(side > 0 ? place : place - 1);
            ledger.addSwap(axis);
            if (Line.isHigh(passed) != Line.isHigh(code)) {
                turn(axis, Line.boxOf(code), Line.boxOf(passed));
            }
            place += side;
            side = line.sideToGo(place);
        }
    }

    /** Two BOXES begin or end to MEET on an AXIS; by that they turn only if they MEET on the others. */
    private void turn(int axis, int a, int b) {
        lineOf(axis).turnMeeting(a, b);
        if (holds(meetsOnOthers(axis, a), b)) {
            ledger.addTurn();
        }
    }

    private void tellEvents() {
        for (int a = 0; a < MOST_BOXES; a++) {
            int now = meetsOnAll(a);
            for (int b = a + 1; b < MOST_BOXES; b++) {
                if (holds(now ^ overlaps[a], b)) {
                    ledger.addEvent(pairCode(a, b), holds(now, b));
                }
            }
            overlaps[a] = now;
        }
        ledger.close();
    }

    // ---- groups and the deepest heap

    private int groupOf(int box) {
        int group = bit(box);
        for (int round = 0; round < MOST_BOXES; round++) {
            int wider = group;
            for (int member = 0; member < MOST_BOXES; member++) {
                if (holds(group, member)) {
                    wider |= overlaps[member];
                }
            }
            if (wider == group) {
                break;
            }
            group = wider;
        }
        return group;
    }

    private static int leastOf(int bits) {
        int box = 0;
        while (box < MOST_BOXES && !holds(bits, box)) {
            box++;
        }
        return box;
    }

    private int groupCount() {
        int groups = 0;
        int left = there;
        for (int box = 0; box < MOST_BOXES; box++) {
            if (holds(left, box)) {
                left &= ~groupOf(box);
                groups++;
            }
        }
        return groups;
    }

    private int greatestGroup() {
        int most = 0;
        int left = there;
        for (int box = 0; box < MOST_BOXES; box++) {
            if (holds(left, box)) {
                int group = groupOf(box);
                left &= ~group;
                most = Math.max(most, Integer.bitCount(group));
            }
        }
        return most;
    }

    private int deepest() {
        return deepestFrom(overlaps, MOST_BOXES - 1, 0, there, 0);
    }

    /**
     * The best set of chosen BOXES and some of the open ones, all of them from this one down.
     * Sets without the greater numbers are tried first, so that the first of a size has the least sum.
     */
    private static int deepestFrom(int[] overlaps, int box, int chosen, int open, int best) {
        if (Integer.bitCount(chosen | open) <= Integer.bitCount(best)) {
            return best;
        }
        if (box < 0 || box >= overlaps.length) {
            return chosen;
        }
        int rest = open & ~bit(box);
        int without = deepestFrom(overlaps, box - 1, chosen, rest, best);
        if (!holds(open, box)) {
            return without;
        }
        return deepestFrom(overlaps, box - 1, chosen | bit(box), rest & overlaps[box], without);
    }

    /** One AXIS: where each BOX begins and stops on it, its ENDS in order, and which BOXES MEET. */
    private static final class Line {
        static final int MOST_ENDS = 2 * MOST_BOXES;

        final int[] low;
        final int[] high;
        /** An END's code is twice its BOX, and 1 more for a HIGH. */
        final int[] order;
        final int[] meets;
        int used;
        boolean touching;

        Line() {
            low = new int[MOST_BOXES];
            high = new int[MOST_BOXES];
            order = new int[MOST_ENDS];
            meets = new int[MOST_BOXES];
            used = 0;
            touching = false;
        }

        static int lowEnd(int box) {
            return 2 * box;
        }

        static int highEnd(int box) {
            return 2 * box + 1;
        }

        static int boxOf(int code) {
            return code >> 1;
        }

        static boolean isHigh(int code) {
            return (code & 1) == 1;
        }

        int valueOf(int code) {
            return isHigh(code) ? high[boxOf(code)] : low[boxOf(code)];
        }

        boolean isAhead(int one, int other) {
            int a = valueOf(one);
            int b = valueOf(other);
            if (a != b) {
                return a < b;
            }
            if (isHigh(one) != isHigh(other)) {
                return isHigh(one) != touching;
            }
            return boxOf(one) < boxOf(other);
        }

        boolean canShift(int box, int by) {
            return (long) low[box] + by >= -FARTHEST && (long) high[box] + by <= FARTHEST;
        }

        boolean spanMeets(int box, int spanLow, int spanHigh) {
            if (touching) {
                return low[box] <= spanHigh && spanLow <= high[box];
            }
            return low[box] < spanHigh && spanLow < high[box];
        }

        void arrange(int boxes, boolean touchingCounts) {
            touching = touchingCounts;
            used = 0;
            for (int box = 0; box < MOST_BOXES; box++) {
                meets[box] = 0;
                if (holds(boxes, box)) {
                    insert(lowEnd(box));
                    insert(highEnd(box));
                    findMeets(boxes, box);
                }
            }
        }

        private void insert(int code) {
            int place = used;
            while (place > 0 && isAhead(code, order[place - 1])) {
                order[place] = order[place - 1];
                place--;
            }
            order[place] = code;
            used++;
        }

        private void findMeets(int boxes, int box) {
            for (int other = 0; other < MOST_BOXES; other++) {
                if (other != box && holds(boxes, other) && spanMeets(box, low[other], high[other])) {
                    meets[box] |= bit(other);
                }
            }
        }

        void turnMeeting(int a, int b) {
            meets[a] ^= bit(b);
            meets[b] ^= bit(a);
        }

        int placeOf(int code) {
            int place = 0;
            while (place < used - 1 && order[place] != code) {
                place++;
            }
            return place;
        }

        /** 1 or -1, if the END there belongs behind the next one or ahead of the one ahead of it, else 0. */
        int sideToGo(int place) {
            if (place + 1 < used && isAhead(order[place + 1], order[place])) {
                return 1;
            }
            if (place > 0 && isAhead(order[place], order[place - 1])) {
                return -1;
            }
            return 0;
        }

        void swapWithNext(int place) {
            int code = order[place];
            order[place] = order[place + 1];
            order[place + 1] = code;
        }

        /** How far a BOX can go that way between the farthest numbers. */
        int room(int box, int way) {
            return way > 0 ? FARTHEST - high[box] : low[box] + FARTHEST;
        }

        /** How far a BOX goes that way until it begins or ends to MEET the other one; below 1: never. */
        int distanceToTurn(int box, int other, int way) {
            if (holds(meets[box], other)) {
                int apart = way > 0 ? high[other] - low[box] : high[box] - low[other];
                return touching ? apart + 1 : apart;
            }
            int gap = way > 0 ? low[other] - high[box] : low[box] - high[other];
            return touching ? gap : gap + 1;
        }
    }

    /** What the latest CHANGE did, and what all of them did. */
    private static final class Ledger {
        static final int MOST_EVENTS = MOST_BOXES * (MOST_BOXES - 1) / 2;

        /** Twice the pair, and 1 more for BEGUN. */
        final int[] events;
        final int[] swaps;
        int begun;
        int ended;
        int flickers;
        int begunEver;
        int endedEver;
        int swapsEver;
        int flickersEver;
        int changesEver;
        private int turns;

        Ledger() {
            events = new int[MOST_EVENTS];
            swaps = new int[AXES];
        }

        void open() {
            begun = 0;
            ended = 0;
            turns = 0;
            for (int axis = 0; axis < AXES; axis++) {
                swaps[axis] = 0;
            }
        }

        void addSwap(int axis) {
            swaps[axis]++;
        }

        void addTurn() {
            turns++;
        }

        void addEvent(int pair, boolean began) {
            int place = eventCount();
            if (place >= MOST_EVENTS) {
                return;
            }
            events[place] = began ? 2 * pair + 1 : 2 * pair;
            if (began) {
                begun++;
            } else {
                ended++;
            }
        }

        /** EVENTS of BOXES that come or go have no SWAPS behind them: there turns are fewer, and no FLICKERS. */
        void close() {
            flickers = Math.max(0, turns - eventCount());
            begunEver += begun;
            endedEver += ended;
            swapsEver += allSwaps();
            flickersEver += flickers;
            changesEver++;
        }

        int eventCount() {
            return begun + ended;
        }

        int eventPair(int place) {
            return events[place] >> 1;
        }

        boolean eventBegan(int place) {
            return (events[place] & 1) == 1;
        }

        int allSwaps() {
            return swaps[0] + swaps[1] + swaps[2];
        }
    }

    /** THE PAGE, and how it is read as a batch of BOXES. */
    private static final class Page {
        static final int MOST_LETTERS = 60;
        static final int MOST_IN_BATCH = 4;
        static final int NUMBERS_OF_BOX = 2 * AXES;
        static final int MOST_NUMBERS = MOST_IN_BATCH * NUMBERS_OF_BOX;
        /** A code that no letter has. */
        static final int NO_LETTER = 0;

        final int[] codes;
        int size;
        private final int[] numbers;
        private int numbersRead;
        private int figures;
        private int value;
        private boolean belowZero;

        Page() {
            codes = new int[MOST_LETTERS];
            numbers = new int[MOST_NUMBERS];
            size = 0;
            beginReading();
        }

        boolean append(int code) {
            if (size >= MOST_LETTERS) {
                return false;
            }
            codes[size] = code;
            size++;
            return true;
        }

        void clear() {
            size = 0;
        }

        int firstWrong() {
            beginReading();
            for (int place = 0; place < size; place++) {
                if (!takes(codes[place])) {
                    return place;
                }
            }
            return size;
        }

        boolean isBatch() {
            if (firstWrong() < size || figures == 0) {
                return false;
            }
            endNumber();
            if (numbersRead % NUMBERS_OF_BOX != 0) {
                return false;
            }
            for (int place = 0; place + 1 < numbersRead; place += 2) {
                if (numbers[place] >= numbers[place + 1]) {
                    return false;
                }
            }
            return true;
        }

        int batchSize() {
            return numbersRead / NUMBERS_OF_BOX;
        }

        int lowOf(int inBatch, int axis) {
            return numbers[inBatch * NUMBERS_OF_BOX + 2 * axis];
        }

        int highOf(int inBatch, int axis) {
            return numbers[inBatch * NUMBERS_OF_BOX + 2 * axis + 1];
        }

        private void beginReading() {
            numbersRead = 0;
            beginNumber();
        }

        private void beginNumber() {
            figures = 0;
            value = 0;
            belowZero = false;
        }

        private void endNumber() {
            if (numbersRead < MOST_NUMBERS) {
                numbers[numbersRead] = belowZero ? -value : value;
                numbersRead++;
            }
            beginNumber();
        }

        private boolean takes(int code) {
            if (code == '-') {
                return takesMinus();
            }
            if (code >= '0' && code <= '9') {
                return takesFigure(code - '0');
            }
            return takesMark(code);
        }

        private boolean takesMinus() {
            if (belowZero || figures > 0) {
                return false;
            }
            belowZero = true;
            return true;
        }

        private boolean takesFigure(int figure) {
            boolean behindZero = figures > 0 && value == 0;
            boolean minusZero = belowZero && figures == 0 && figure == 0;
            int longer = 10 * value + figure;
            if (behindZero || minusZero || longer > FARTHEST) {
                return false;
            }
            value = longer;
            figures++;
            return true;
        }

        private boolean takesMark(int code) {
            if (figures == 0 || code != markDue()) {
                return false;
            }
            endNumber();
            return true;
        }

        private int markDue() {
            if (numbersRead % 2 == 0) {
                return ':';
            }
            if ((numbersRead + 1) % NUMBERS_OF_BOX != 0) {
                return ',';
            }
            return numbersRead + 1 < MOST_NUMBERS ? ';' : NO_LETTER;
        }
    }
}

import java.util.Arrays;

/**
 * Loops on a small board: a loop of acts, laid on cells of a grid that work in beat.
 *
 * <p>What each call promises stands in ../shared/DOC.md; the words used here are the document's.
 */
public final class LoopBoard {
    public static final int UNKNOWN = -1, OUTSIDE = -2, STATE = -3, FULL = -4, NO = -5, NONE = -6, SPENT = -7;

    // Refusals of calls whose proper answers may be any int, or any number that an INPUT may have.
    private static final long LOST = -10000000000L;
    private static final int ABOUT_REFUSED = -2000;

    private static final int INPUT = 0, SUM = 1, DIFFERENCE = 2, PRODUCT = 3, LESSER = 4, GREATER = 5;

    private static final int MOST_ACTS = 8;
    private static final int MOST_SLOTS = 2 * MOST_ACTS;
    private static final int MOST_DISTANCE = 3;
    private static final int MOST_NUMBER = 1000;
    private static final int MOST_SIDE = 3;
    private static final int MOST_CELLS = MOST_SIDE * MOST_SIDE;
    private static final int MOST_BEAT = 12;
    private static final int MOST_START = 299;
    private static final int MOST_ROUNDS = 60;
    private static final int LAST_ROUND = 60;
    private static final int LAST_WORK_BEAT = 10000;
    private static final int MOST_TRIES = 20000;
    // Eight acts of two beats round a ring of DISTANCE 1: no ring asks for more.
    private static final int MOST_RINGS = 2 * MOST_ACTS;

    private final Loop loop;
    private final Grid grid;
    private final Layout layout;
    private final Search search;
    private final Values plainValues;
    private final Values steppedValues;
    private int plainRounds;
    private int steppedRounds;
    private int latestTries;

    public LoopBoard() {
        loop = new Loop();
        grid = new Grid();
        layout = new Layout(loop, grid);
        search = new Search(loop, grid);
        plainValues = new Values(loop);
        steppedValues = new Values(loop);
    }

    // ---- 1 the loop

    public int input(int p, int q) {
        if (!isWithin(p, -MOST_NUMBER, MOST_NUMBER) || !isWithin(q, -MOST_NUMBER, MOST_NUMBER)) {
            return OUTSIDE;
        }
        int act = loop.addInput(p, q);
        if (act >= 0) {
            actsChanged();
        }
        return act;
    }

    public int act(int kind, int a, int da, int b, int db) {
        boolean operandsFit = isOperand(a, da) && isOperand(b, db);
        if (!isWithin(kind, SUM, GREATER) || !operandsFit) {
            return OUTSIDE;
        }
        int act = loop.addWork(kind, a, da, b, db);
        if (act >= 0) {
            actsChanged();
        }
        return act;
    }

    public int first(int v) {
        int before = loop.firstNumber();
        loop.setFirstNumber(v);
        plainRounds = 0;
        steppedRounds = 0;
        return before;
    }

    public int clear() {
        int before = loop.count();
        loop.empty();
        actsChanged();
        return before;
    }

    public int sound() {
        return loop.isSound() ? 1 : 0;
    }

    public long plain(int act, int round) {
        if (!loop.isThere(act) || !isWithin(round, 0, LAST_ROUND)) {
            return LOST + UNKNOWN;
        }
        if (!loop.isSound()) {
            return LOST + NO;
        }
        for (; plainRounds <= round; plainRounds++) {
            plainValues.makeRound(plainRounds);
        }
        return plainValues.at(act, round);
    }

    public int about(int act, int what) {
        if (!loop.isThere(act)) {
            return ABOUT_REFUSED + UNKNOWN;
        }
        switch (what) {
            case 0: return loop.kindOf(act);
            case 1: return loop.lengthOf(act);
            case 2: return loop.sourceOf(2 * act);
            case 3: return loop.distanceOf(2 * act);
            case 4: return loop.sourceOf(2 * act + 1);
            case 5: return loop.distanceOf(2 * act + 1);
            case 6: return loop.factorOf(act);
            case 7: return loop.addendOf(act);
            default: return ABOUT_REFUSED + OUTSIDE;
        }
    }

    // ---- 2 the board, a plan

    public int board(int rows, int columns) {
        if (!isWithin(rows, 1, MOST_SIDE) || !isWithin(columns, 1, MOST_SIDE)) {
            return OUTSIDE;
        }
        grid.renew(rows, columns);
        layout.drop();
        steppedRounds = 0;
        return grid.cells();
    }

    public int breaks(int cell, boolean is) {
        if (!grid.isThere(cell)) {
            return UNKNOWN;
        }
        boolean before = grid.isBroken(cell);
        grid.setBroken(cell, is);
        steppedRounds = 0;
        return before ? 1 : 0;
    }

    public int multiplies(int cell, boolean can) {
        if (!grid.isThere(cell)) {
            return UNKNOWN;
        }
        boolean before = grid.isMultiplying(cell);
        grid.setMultiplying(cell, can);
        steppedRounds = 0;
        return before ? 1 : 0;
    }

    public int way(int from, int to) {
        return grid.isThere(from) && grid.isThere(to) ? grid.wayBetween(from, to) : UNKNOWN;
    }

    public int plan(int beat) {
        if (!isWithin(beat, 1, MOST_BEAT)) {
            return OUTSIDE;
        }
        if (loop.count() == 0) {
            return STATE;
        }
        layout.begin(beat);
        steppedRounds = 0;
        return 1;
    }

    public int lay(int act, int cell, int start) {
        if (!loop.isThere(act) || !grid.isThere(cell)) {
            return UNKNOWN;
        }
        if (!isWithin(start, 0, MOST_START)) {
            return OUTSIDE;
        }
        if (!layout.stands()) {
            return STATE;
        }
        layout.put(act, cell, start);
        steppedRounds = 0;
        return 1;
    }

    public int lacks() {
        if (!layout.stands()) {
            return STATE;
        }
        return loop.isSound() ? layout.firstLack() : NO;
    }

    public int laid(int act, int what) {
        if (!loop.isThere(act)) {
            return UNKNOWN;
        }
        if (!isWithin(what, 0, 1)) {
            return OUTSIDE;
        }
        if (!layout.stands()) {
            return STATE;
        }
        return what == 0 ? layout.cellOf(act) : layout.startOf(act);
    }

    public int kept(int act) {
        if (!loop.isThere(act)) {
            return UNKNOWN;
        }
        if (!layout.stands()) {
            return STATE;
        }
        return layout.isGood() ? layout.mostKept(act) : NO;
    }

    public int step(int rounds) {
        if (!isWithin(rounds, 1, MOST_ROUNDS)) {
            return OUTSIDE;
        }
        if (!layout.stands()) {
            return STATE;
        }
        if (!layout.isGood()) {
            return NO;
        }
        int end = layout.endOf(rounds);
        for (int beat = 0; beat < end; beat++) {
            stepBeat(beat, rounds);
        }
        steppedRounds = rounds;
        return end;
    }

    public long stepped(int act, int round) {
        if (steppedRounds == 0) {
            return LOST + STATE;
        }
        if (!loop.isThere(act) || !isWithin(round, 0, steppedRounds - 1)) {
            return LOST + UNKNOWN;
        }
        return steppedValues.at(act, round);
    }

    public int works(int cell, int beat) {
        if (!grid.isThere(cell)) {
            return UNKNOWN;
        }
        if (!isWithin(beat, 0, LAST_WORK_BEAT)) {
            return OUTSIDE;
        }
        if (!layout.stands()) {
            return STATE;
        }
        return layout.isGood() ? layout.actStarting(cell, beat) : NO;
    }

    // ---- 3 bounds, the search

    public int bound(int which) {
        if (!isWithin(which, 0, 1)) {
            return OUTSIDE;
        }
        if (loop.count() == 0) {
            return STATE;
        }
        if (!loop.isSound()) {
            return NO;
        }
        return which == 0 ? placesBound() : loop.ringsBound();
    }

    public int find() {
        if (loop.count() == 0) {
            return STATE;
        }
        if (!loop.isSound()) {
            return NO;
        }
        int places = placesBound();
        int tried = 0;
        int least = places == NONE ? MOST_BEAT + 1 : Math.max(places, loop.ringsBound());
        for (int beat = least; beat <= MOST_BEAT; beat++) {
            int found = search.run(beat);
            if (found == SPENT) {
                // A refused call changes nothing, so tries() tells of the find() before this one.
                return SPENT;
            }
            tried += search.triesMade();
            if (found == beat) {
                takeFound(beat);
                latestTries = tried;
                return beat;
            }
        }
        latestTries = tried;
        return NONE;
    }

    public int tries() {
        return latestTries;
    }

    public int told(int what) {
        switch (what) {
            case 0: return loop.count();
            case 1: return grid.rows();
            case 2: return grid.columns();
            case 3: return grid.unbroken();
            case 4: return layout.beat();
            case 5: return steppedRounds;
            default: return OUTSIDE;
        }
    }

    // ---- helpers

    private static boolean isWithin(int number, int least, int most) {
        return number >= least && number <= most;
    }

    private static boolean isOperand(int source, int distance) {
        return isWithin(source, 0, MOST_ACTS - 1) && isWithin(distance, 0, MOST_DISTANCE);
    }

    /** The quotient, cut up; of a divisor that can't divide, NONE. */
    private static int cutUp(int number, int divisor) {
        return divisor > 0 ? -Math.floorDiv(-number, divisor) : NONE;
    }

    private void actsChanged() {
        layout.drop();
        plainRounds = 0;
        steppedRounds = 0;
    }

    private void stepBeat(int beat, int rounds) {
        for (int act = 0; act < loop.count(); act++) {
            int round = layout.roundStarting(act, beat);
            if (round >= 0 && round < rounds) {
                steppedValues.make(act, round);
            }
        }
    }

    private int placesBound() {
        int products = loop.products();
        int unbroken = grid.unbroken();
        int multiplying = grid.unbrokenMultiplying();
        if (unbroken == 0 || products > 0 && multiplying == 0) {
            return NONE;
        }
        int ofAll = cutUp(loop.count(), unbroken);
        return products == 0 ? ofAll : Math.max(ofAll, cutUp(products, multiplying));
    }

    private void takeFound(int beat) {
        layout.begin(beat);
        for (int act = 0; act < loop.count(); act++) {
            layout.put(act, search.cellOf(act), search.startOf(act));
        }
        steppedRounds = 0;
    }

    /** THE LOOP: its ACTS, and their OPERANDS in slots, two to an ACT. */
    private static final class Loop {
        private final int[] kinds = new int[MOST_ACTS];
        private final int[] factors = new int[MOST_ACTS];
        private final int[] addends = new int[MOST_ACTS];
        private final int[] sources = new int[MOST_SLOTS];
        private final int[] distances = new int[MOST_SLOTS];
        // The acts so that each comes behind those whose value of the same round it takes.
        private final int[] order = new int[MOST_ACTS];
        private final boolean[] isOrdered = new boolean[MOST_ACTS];
        // How late each act ends up, going round rings.
        private final int[] delays = new int[MOST_ACTS];
        private int count;
        private int ordered;
        private int firstNumber;

        int count() {
            return count;
        }

        int firstNumber() {
            return firstNumber;
        }

        void setFirstNumber(int number) {
            firstNumber = number;
        }

        boolean isThere(int act) {
            return act >= 0 && act < count && act < MOST_ACTS;
        }

        private boolean isSlot(int slot) {
            return slot >= 0 && slot < 2 * count && slot < MOST_SLOTS;
        }

        boolean isSound() {
            return ordered == count;
        }

        int kindOf(int act) {
            return isThere(act) ? kinds[act] : NONE;
        }

        int lengthOf(int act) {
            return isThere(act) && kinds[act] == PRODUCT ? 2 : 1;
        }

        int factorOf(int act) {
            return isThere(act) ? factors[act] : 0;
        }

        int addendOf(int act) {
            return isThere(act) ? addends[act] : 0;
        }

        /** The ACT of an OPERAND, which may be yet to come; NONE of an INPUT. */
        int sourceOf(int slot) {
            return isSlot(slot) ? sources[slot] : NONE;
        }

        int distanceOf(int slot) {
            return isSlot(slot) ? distances[slot] : 0;
        }

        /** The ACT at a place of the order to make a round's values in. */
        int actInOrder(int place) {
            return isThere(place) && place < ordered ? order[place] : NONE;
        }

        int addInput(int p, int q) {
            if (count >= MOST_ACTS) {
                return FULL;
            }
            int act = count;
            kinds[act] = INPUT;
            factors[act] = p;
            addends[act] = q;
            setOperand(2 * act, NONE, 0);
            setOperand(2 * act + 1, NONE, 0);
            count++;
            arrange();
            return act;
        }

        int addWork(int kind, int a, int da, int b, int db) {
            if (count >= MOST_ACTS) {
                return FULL;
            }
            int act = count;
            kinds[act] = kind;
            factors[act] = 0;
            addends[act] = 0;
            setOperand(2 * act, a, da);
            setOperand(2 * act + 1, b, db);
            count++;
            arrange();
            return act;
        }

        private void setOperand(int slot, int source, int distance) {
            if (slot >= 0 && slot < MOST_SLOTS) {
                sources[slot] = source;
                distances[slot] = distance;
            }
        }

        void empty() {
            count = 0;
            arrange();
        }

        /** Orders the acts as far as can be; a ring of DISTANCE 0 or an act not there leaves some out. */
        private void arrange() {
            for (int act = 0; act < count && act < MOST_ACTS; act++) {
                isOrdered[act] = false;
            }
            ordered = 0;
            for (int pass = 0; pass < count; pass++) {
                for (int act = 0; act < count && act < MOST_ACTS; act++) {
                    boolean isNext = !isOrdered[act] && canFollow(2 * act) && canFollow(2 * act + 1);
                    if (isNext && ordered < MOST_ACTS) {
                        isOrdered[act] = true;
                        order[ordered] = act;
                        ordered++;
                    }
                }
            }
        }

        /** Whether an operand's value can be had behind the acts ordered so far. */
        private boolean canFollow(int slot) {
            int source = sourceOf(slot);
            if (source == NONE) {
                return true;
            }
            return isThere(source) && (distanceOf(slot) > 0 || isOrdered[source]);
        }

        int products() {
            int found = 0;
            for (int act = 0; act < count && act < MOST_ACTS; act++) {
                if (kinds[act] == PRODUCT) {
                    found++;
                }
            }
            return found;
        }

        /** The BOUND of RINGS, of a loop that is SOUND. */
        int ringsBound() {
            int beat = 1;
            while (beat < MOST_RINGS && !ringsAllow(beat)) {
                beat++;
            }
            return beat;
        }

        /** Delays come to rest if and only if no ring's LENGTHS are above the beat times its DISTANCES. */
        private boolean ringsAllow(int beat) {
            Arrays.fill(delays, 0);
            for (int pass = 0; pass <= count; pass++) {
                if (!delaysGrow(beat)) {
                    return true;
                }
            }
            return false;
        }

        private boolean delaysGrow(int beat) {
            boolean grew = false;
            for (int slot = 0; slot < 2 * count && slot < MOST_SLOTS; slot++) {
                int act = slot / 2;
                int source = sourceOf(slot);
                if (isThere(source)) {
                    int delay = delays[source] + lengthOf(source) - beat * distanceOf(slot);
                    if (delay > delays[act]) {
                        delays[act] = delay;
                        grew = true;
                    }
                }
            }
            return grew;
        }
    }

    /** VALUES of ACTS by ROUNDS. */
    private static final class Values {
        private final Loop loop;
        private final int[] made = new int[MOST_ACTS * (LAST_ROUND + 1)];

        Values(Loop loop) {
            this.loop = loop;
        }

        int at(int act, int round) {
            return isPlace(act, round) ? made[act * (LAST_ROUND + 1) + round] : 0;
        }

        private static boolean isPlace(int act, int round) {
            return act >= 0 && act < MOST_ACTS && round >= 0 && round <= LAST_ROUND;
        }

        /** Makes all acts' values of a round, those of earlier rounds being made. */
        void makeRound(int round) {
            for (int place = 0; place < loop.count(); place++) {
                make(loop.actInOrder(place), round);
            }
        }

        /** Makes one act's value of a round, its operands' values being made. */
        void make(int act, int round) {
            if (isPlace(act, round)) {
                made[act * (LAST_ROUND + 1) + round] = valueOf(act, round);
            }
        }

        private int valueOf(int act, int round) {
            if (loop.kindOf(act) == INPUT) {
                return loop.factorOf(act) * round + loop.addendOf(act);
            }
            int left = operand(2 * act, round);
            int right = operand(2 * act + 1, round);
            switch (loop.kindOf(act)) {
                case SUM: return left + right;
                case DIFFERENCE: return left - right;
                case PRODUCT: return left * right;
                case LESSER: return Math.min(left, right);
                default: return Math.max(left, right);
            }
        }

        private int operand(int slot, int round) {
            int ahead = round - loop.distanceOf(slot);
            return ahead < 0 ? loop.firstNumber() : at(loop.sourceOf(slot), ahead);
        }
    }

    /** THE BOARD: its CELLS, numbered by rows, and the WAYS between them. */
    private static final class Grid {
        // Longer than any way can be, and small enough to be added up.
        private static final int FAR = 1000;

        private final boolean[] broken = new boolean[MOST_CELLS];
        private final boolean[] multiplying = new boolean[MOST_CELLS];
        private final int[] ways = new int[MOST_CELLS * MOST_CELLS];
        private int rows;
        private int columns;

        Grid() {
            renew(2, 2);
        }

        void renew(int newRows, int newColumns) {
            rows = newRows;
            columns = newColumns;
            for (int cell = 0; cell < MOST_CELLS; cell++) {
                broken[cell] = false;
                multiplying[cell] = true;
            }
            measure();
        }

        int rows() {
            return rows;
        }

        int columns() {
            return columns;
        }

        int cells() {
            return rows * columns;
        }

        boolean isThere(int cell) {
            return cell >= 0 && cell < rows * columns && cell < MOST_CELLS;
        }

        boolean isBroken(int cell) {
            return isThere(cell) && broken[cell];
        }

        boolean isMultiplying(int cell) {
            return isThere(cell) && multiplying[cell];
        }

        void setBroken(int cell, boolean is) {
            if (isThere(cell)) {
                broken[cell] = is;
                measure();
            }
        }

        void setMultiplying(int cell, boolean can) {
            if (isThere(cell)) {
                multiplying[cell] = can;
            }
        }

        private boolean isOpen(int cell) {
            return isThere(cell) && !broken[cell];
        }

        /** Whether a cell that is not broken could do an act of that kind. */
        boolean suits(int kind, int cell) {
            return isThere(cell) && (kind != PRODUCT || multiplying[cell]);
        }

        int unbroken() {
            int found = 0;
            for (int cell = 0; cell < cells(); cell++) {
                if (isOpen(cell)) {
                    found++;
                }
            }
            return found;
        }

        int unbrokenMultiplying() {
            int found = 0;
            for (int cell = 0; cell < cells(); cell++) {
                if (isOpen(cell) && isMultiplying(cell)) {
                    found++;
                }
            }
            return found;
        }

        int wayBetween(int from, int to) {
            if (!isThere(from) || !isThere(to)) {
                return NONE;
            }
            int steps = ways[from * MOST_CELLS + to];
            return steps < FAR ? steps : NONE;
        }

        /** Measures all ways anew: single steps first, then ways through each cell in turn. */
        private void measure() {
            for (int from = 0; from < MOST_CELLS; from++) {
                for (int to = 0; to < MOST_CELLS; to++) {
                    ways[from * MOST_CELLS + to] = singleStep(from, to);
                }
            }
            for (int middle = 0; middle < cells() && middle < MOST_CELLS; middle++) {
                shortenThrough(middle);
            }
        }

        private void shortenThrough(int middle) {
            for (int from = 0; from < MOST_CELLS; from++) {
                for (int to = 0; to < MOST_CELLS; to++) {
                    int steps = ways[from * MOST_CELLS + middle] + ways[middle * MOST_CELLS + to];
                    if (steps < ways[from * MOST_CELLS + to]) {
                        ways[from * MOST_CELLS + to] = steps;
                    }
                }
            }
        }

        private int singleStep(int from, int to) {
            if (from == to) {
                return 0;
            }
            return isOpen(from) && isOpen(to) && areNeighbours(from, to) ? 1 : FAR;
        }

        private boolean areNeighbours(int from, int to) {
            if (columns < 1) {
                return false;
            }
            int down = Math.abs(from / columns - to / columns);
            int across = Math.abs(from % columns - to % columns);
            return down + across == 1;
        }
    }

    /** THE PLAN: a CELL and a START of each ACT; BEAT 0 while there is none. */
    private static final class Layout {
        private final Loop loop;
        private final Grid grid;
        private final int[] cells = new int[MOST_ACTS];
        private final int[] starts = new int[MOST_ACTS];
        private int beat;

        Layout(Loop loop, Grid grid) {
            this.loop = loop;
            this.grid = grid;
        }

        int beat() {
            return beat;
        }

        boolean stands() {
            return beat > 0;
        }

        void drop() {
            beat = 0;
        }

        void begin(int newBeat) {
            beat = newBeat;
            Arrays.fill(cells, 0);
            Arrays.fill(starts, 0);
        }

        void put(int act, int cell, int start) {
            if (loop.isThere(act)) {
                cells[act] = cell;
                starts[act] = start;
            }
        }

        int cellOf(int act) {
            return loop.isThere(act) ? cells[act] : NONE;
        }

        int startOf(int act) {
            return loop.isThere(act) ? starts[act] : NONE;
        }

        private int madeAt(int act) {
            return startOf(act) + loop.lengthOf(act);
        }

        boolean isGood() {
            return stands() && loop.isSound() && firstLack() == 0;
        }

        int firstLack() {
            int count = loop.count();
            for (int act = 0; act < count; act++) {
                if (grid.isBroken(cellOf(act))) {
                    return 10 + act;
                }
            }
            for (int act = 0; act < count; act++) {
                if (!grid.suits(loop.kindOf(act), cellOf(act))) {
                    return 20 + act;
                }
            }
            for (int act = 0; act < count; act++) {
                if (meetsOneAhead(act)) {
                    return 30 + act;
                }
            }
            for (int slot = 0; slot < 2 * count; slot++) {
                if (isLate(slot)) {
                    return 40 + slot;
                }
            }
            return 0;
        }

        private boolean meetsOneAhead(int act) {
            if (beat < 1) {
                return false;
            }
            for (int other = 0; other < act; other++) {
                boolean isSameCell = cellOf(other) == cellOf(act);
                if (isSameCell && (startOf(act) - startOf(other)) % beat == 0) {
                    return true;
                }
            }
            return false;
        }

        /** Whether an operand comes too late, or not at all. */
        private boolean isLate(int slot) {
            int source = loop.sourceOf(slot);
            if (source == NONE) {
                return false;
            }
            int way = grid.wayBetween(cellOf(source), cellOf(slot / 2));
            return way == NONE || usedAt(slot) < madeAt(source) + way;
        }

        /** When an operand is used, counted from the beat 0 of the round that it comes from. */
        private int usedAt(int slot) {
            return startOf(slot / 2) + beat * loop.distanceOf(slot);
        }

        int mostKept(int act) {
            if (beat < 1) {
                return NO;
            }
            int made = madeAt(act);
            int last = made;
            for (int slot = 0; slot < 2 * loop.count(); slot++) {
                if (loop.sourceOf(slot) == act) {
                    last = Math.max(last, usedAt(slot));
                }
            }
            return (last - made) / beat + 1;
        }

        /** When the last VALUE of so many ROUNDS is made. */
        int endOf(int rounds) {
            int end = 0;
            for (int act = 0; act < loop.count(); act++) {
                end = Math.max(end, madeAt(act) + (rounds - 1) * beat);
            }
            return end;
        }

        /** The ROUND in which an ACT starts at a beat; NONE. */
        int roundStarting(int act, int atBeat) {
            int since = atBeat - startOf(act);
            return beat > 0 && since >= 0 && since % beat == 0 ? since / beat : NONE;
        }

        int actStarting(int cell, int atBeat) {
            for (int act = 0; act < loop.count(); act++) {
                if (cellOf(act) == cell && roundStarting(act, atBeat) >= 0) {
                    return act;
                }
            }
            return NONE;
        }
    }

    /**
     * THE SEARCH for one BEAT. STARTS are left-over and BEAT times a number of turns; gaps tell by OPERANDS how many
     * turns the using ACT must be behind the used one.
     */
    private static final class Search {
        // Each move is a try, or a step back from an act that a try stepped on to.
        private static final int MOST_MOVES = 3 * MOST_TRIES;

        private final Loop loop;
        private final Grid grid;
        private final int[] cells = new int[MOST_ACTS];
        private final int[] leftOvers = new int[MOST_ACTS];
        // The next try of each act, by cells and left-overs.
        private final int[] nextTries = new int[MOST_ACTS];
        private final int[] gaps = new int[MOST_SLOTS];
        // A row of turns by acts for each number of acts placed: what stands again after a step back.
        private final int[] turns = new int[MOST_ACTS * MOST_ACTS];
        private int beat;
        private int tries;

        Search(Loop loop, Grid grid) {
            this.loop = loop;
            this.grid = grid;
        }

        int triesMade() {
            return tries;
        }

        int cellOf(int act) {
            return loop.isThere(act) ? cells[act] : NONE;
        }

        /** The START that was found; least, for turns only rise as far as operands ask. */
        int startOf(int act) {
            if (!loop.isThere(act)) {
                return NONE;
            }
            return leftOvers[act] + beat * turns[(loop.count() - 1) * MOST_ACTS + act];
        }

        /** The beat itself if places were found; NONE; SPENT. */
        int run(int newBeat) {
            beat = newBeat;
            tries = 0;
            int act = 0;
            int places = grid.cells() * beat;
            nextTries[0] = 0;
            for (int move = 0; move < MOST_MOVES && loop.isThere(act); move++) {
                if (nextTries[act] >= places) {
                    act--;
                } else if (tries >= MOST_TRIES) {
                    return SPENT;
                } else if (goesNext(act)) {
                    act++;
                    if (loop.isThere(act)) {
                        nextTries[act] = 0;
                    }
                }
            }
            if (act < 0) {
                return NONE;
            }
            return loop.isThere(act) ? SPENT : beat;
        }

        private boolean goesNext(int act) {
            if (!loop.isThere(act) || beat < 1) {
                return false;
            }
            tries++;
            cells[act] = nextTries[act] / beat;
            leftOvers[act] = nextTries[act] % beat;
            nextTries[act]++;
            return isFree(act) && measureGaps(act) && turnsSettle(act);
        }

        private boolean isFree(int act) {
            if (!loop.isThere(act) || grid.isBroken(cells[act]) || !grid.suits(loop.kindOf(act), cells[act])) {
                return false;
            }
            for (int other = 0; other < act; other++) {
                if (cells[other] == cells[act] && leftOvers[other] == leftOvers[act]) {
                    return false;
                }
            }
            return true;
        }

        /** Gaps of the operands between a newly placed act and those placed ahead; false if there is no WAY. */
        private boolean measureGaps(int act) {
            for (int slot = 0; slot < 2 * act + 2 && slot < MOST_SLOTS; slot++) {
                int source = loop.sourceOf(slot);
                int user = slot / 2;
                if (source >= 0 && source <= act && (source == act || user == act)) {
                    int way = grid.wayBetween(cells[source], cells[user]);
                    if (way == NONE) {
                        return false;
                    }
                    int lead = leftOvers[user] + beat * loop.distanceOf(slot) - leftOvers[source];
                    gaps[slot] = cutUp(loop.lengthOf(source) + way - lead, beat);
                }
            }
            return true;
        }

        /**
         * Lets turns rise until all operands among the acts placed are in time. The acts ahead are at rest without the
         * new one, so only its own turns push them; if they push it in turn, a ring would never rest.
         */
        private boolean turnsSettle(int act) {
            int row = act * MOST_ACTS;
            beginRow(act);
            for (int pass = 0; pass <= act + 1; pass++) {
                boolean rose = false;
                for (int slot = 0; slot < 2 * act + 2 && slot < MOST_SLOTS; slot++) {
                    int source = loop.sourceOf(slot);
                    int user = slot / 2;
                    if (source >= 0 && source <= act && turns[row + source] + gaps[slot] > turns[row + user]) {
                        if (user == act) {
                            return false;
                        }
                        turns[row + user] = turns[row + source] + gaps[slot];
                        rose = true;
                    }
                }
                if (!rose) {
                    return true;
                }
            }
            return false;
        }

        /** Takes the turns of the acts ahead, and the least that the new act's own operands ask. */
        private void beginRow(int act) {
            int row = act * MOST_ACTS;
            if (act > 0 && act < MOST_ACTS) {
                System.arraycopy(turns, row - MOST_ACTS, turns, row, act);
            }
            turns[row + act] = 0;
            for (int slot = 2 * act; slot < 2 * act + 2 && slot < MOST_SLOTS; slot++) {
                int source = loop.sourceOf(slot);
                if (source >= 0 && source < act) {
                    turns[row + act] = Math.max(turns[row + act], turns[row + source] + gaps[slot]);
                }
            }
        }
    }
}

import java.util.ArrayList;
import java.util.List;

/**
 * The document once more, written for comparison: rings are walked one by one, starts are raised one by one, values
 * kept are counted in a long run of rounds. Slow, and alike to the program in nothing but its face.
 */
final class Model {
    private static final long LOST = -10000000000L;
    private static final int NOWHERE = 1000000;

    /** An act: an input of p and q, or a kind of two operands. */
    private static final class Act {
        int kind, p, q;
        int[] from = {-6, -6};
        int[] ahead = {0, 0};
        int cell, start;

        int length() {
            return kind == 3 ? 2 : 1;
        }
    }

    private final List<Act> acts = new ArrayList<>();
    private int first, rows = 2, columns = 2, broken, noProducts, beat, tries, rounds;

    private static boolean in(int number, int low, int high) {
        return low <= number && number <= high;
    }

    private boolean isAct(int act) {
        return in(act, 0, acts.size() - 1);
    }

    private boolean isCell(int cell) {
        return in(cell, 0, rows * columns - 1);
    }

    // ---- 1 the loop

    int input(int p, int q) {
        if (!in(p, -1000, 1000) || !in(q, -1000, 1000)) {
            return -2;
        }
        Act made = new Act();
        made.p = p;
        made.q = q;
        return added(made);
    }

    int act(int kind, int a, int da, int b, int db) {
        if (!in(kind, 1, 5) || !in(a, 0, 7) || !in(b, 0, 7) || !in(da, 0, 3) || !in(db, 0, 3)) {
            return -2;
        }
        Act made = new Act();
        made.kind = kind;
        made.from = new int[] {a, b};
        made.ahead = new int[] {da, db};
        return added(made);
    }

    private int added(Act act) {
        if (acts.size() == 8) {
            return -4;
        }
        acts.add(act);
        beat = 0;
        rounds = 0;
        return acts.size() - 1;
    }

    int first(int v) {
        int was = first;
        first = v;
        rounds = 0;
        return was;
    }

    int clear() {
        int was = acts.size();
        acts.clear();
        beat = 0;
        rounds = 0;
        return was;
    }

    private boolean isSound() {
        for (Act act : acts) {
            for (int side = 0; side < 2; side++) {
                if (act.kind != 0 && !isAct(act.from[side])) {
                    return false;
                }
            }
        }
        for (int[] ring : rings()) {
            if (ring[1] == 0) {
                return false;
            }
        }
        return true;
    }

    /** All rings of operands that go through no act twice: lengths together and distances together. */
    private List<int[]> rings() {
        List<int[]> rings = new ArrayList<>();
        for (int start = 0; start < acts.size(); start++) {
            walk(start, start, 0, 0, 0, rings);
        }
        return rings;
    }

    private void walk(int start, int at, int seen, int lengths, int distances, List<int[]> rings) {
        Act act = acts.get(at);
        for (int side = 0; side < 2; side++) {
            int from = act.kind == 0 ? -1 : act.from[side];
            if (!isAct(from) || from < start || (seen >> from & 1) == 1) {
                continue;
            }
            int newLengths = lengths + acts.get(from).length();
            int newDistances = distances + act.ahead[side];
            if (from == start) {
                rings.add(new int[] {newLengths, newDistances});
            } else {
                walk(start, from, seen | 1 << from, newLengths, newDistances, rings);
            }
        }
    }

    int sound() {
        return isSound() ? 1 : 0;
    }

    private int value(int act, int round, Integer[][] known) {
        if (round < 0) {
            return first;
        }
        if (known[act][round] == null) {
            Act made = acts.get(act);
            long value = (long) made.p * round + made.q;
            if (made.kind != 0) {
                long x = value(made.from[0], round - made.ahead[0], known);
                long y = value(made.from[1], round - made.ahead[1], known);
                value = new long[] {0, x + y, x - y, x * y, x < y ? x : y, x < y ? y : x}[made.kind];
            }
            known[act][round] = (int) value;
        }
        return known[act][round];
    }

    long plain(int act, int round) {
        if (!isAct(act) || !in(round, 0, 60)) {
            return LOST - 1;
        }
        return isSound() ? value(act, round, new Integer[8][61]) : LOST - 5;
    }

    int about(int act, int what) {
        if (!isAct(act)) {
            return -2001;
        }
        Act is = acts.get(act);
        int[] answers = {is.kind, is.length(), is.from[0], is.ahead[0], is.from[1], is.ahead[1], is.p, is.q};
        return in(what, 0, 7) ? answers[what] : -2002;
    }

    // ---- 2 the board, a plan

    int board(int newRows, int newColumns) {
        if (!in(newRows, 1, 3) || !in(newColumns, 1, 3)) {
            return -2;
        }
        rows = newRows;
        columns = newColumns;
        broken = 0;
        noProducts = 0;
        beat = 0;
        rounds = 0;
        return rows * columns;
    }

    int breaks(int cell, boolean is) {
        if (!isCell(cell)) {
            return -1;
        }
        int was = broken >> cell & 1;
        broken = is ? broken | 1 << cell : broken & ~(1 << cell);
        rounds = 0;
        return was;
    }

    int multiplies(int cell, boolean can) {
        if (!isCell(cell)) {
            return -1;
        }
        int was = 1 - (noProducts >> cell & 1);
        noProducts = can ? noProducts & ~(1 << cell) : noProducts | 1 << cell;
        rounds = 0;
        return was;
    }

    /** A way by spreading from a cell, step by step. */
    static int wayOn(int rows, int columns, int broken, int from, int to) {
        int reached = 1 << from;
        for (int steps = 0; steps <= 9; steps++) {
            if ((reached >> to & 1) == 1) {
                return steps;
            }
            int next = reached;
            for (int cell = 0; cell < rows * columns; cell++) {
                if ((reached >> cell & 1) == 1 && (broken >> cell & 1) == 0) {
                    int column = cell % columns;
                    next |= column > 0 ? 1 << cell - 1 : 0;
                    next |= column < columns - 1 ? 1 << cell + 1 : 0;
                    next |= cell >= columns ? 1 << cell - columns : 0;
                    next |= cell + columns < rows * columns ? 1 << cell + columns : 0;
                }
            }
            reached = next & ~broken;
        }
        return -6;
    }

    int way(int from, int to) {
        return isCell(from) && isCell(to) ? wayOn(rows, columns, broken, from, to) : -1;
    }

    private int wayOrNowhere(int from, int to) {
        int way = way(from, to);
        return way == -6 ? NOWHERE : way;
    }

    int plan(int newBeat) {
        if (!in(newBeat, 1, 12)) {
            return -2;
        }
        if (acts.isEmpty()) {
            return -3;
        }
        beat = newBeat;
        rounds = 0;
        for (Act act : acts) {
            act.cell = 0;
            act.start = 0;
        }
        return 1;
    }

    int lay(int act, int cell, int start) {
        if (!isAct(act) || !isCell(cell)) {
            return -1;
        }
        if (!in(start, 0, 299)) {
            return -2;
        }
        if (beat == 0) {
            return -3;
        }
        acts.get(act).cell = cell;
        acts.get(act).start = start;
        rounds = 0;
        return 1;
    }

    int lacks() {
        if (beat == 0) {
            return -3;
        }
        return isSound() ? lack() : -5;
    }

    private int lack() {
        List<Integer> lacks = new ArrayList<>();
        for (int v = 0; v < acts.size(); v++) {
            Act act = acts.get(v);
            if ((broken >> act.cell & 1) == 1) {
                lacks.add(10 + v);
            }
            if (act.kind == 3 && (noProducts >> act.cell & 1) == 1) {
                lacks.add(20 + v);
            }
            for (int u = 0; u < v; u++) {
                if (acts.get(u).cell == act.cell && acts.get(u).start % beat == act.start % beat) {
                    lacks.add(30 + v);
                }
            }
            for (int side = 0; side < 2 && act.kind != 0; side++) {
                Act from = acts.get(act.from[side]);
                int comes = from.start + from.length() + wayOrNowhere(from.cell, act.cell);
                if (act.start + act.ahead[side] * beat < comes) {
                    lacks.add(40 + 2 * v + side);
                }
            }
        }
        return lacks.stream().mapToInt(Integer::intValue).min().orElse(0);
    }

    private boolean isGood() {
        return isSound() && lack() == 0;
    }

    int laid(int act, int what) {
        if (!isAct(act)) {
            return -1;
        }
        if (!in(what, 0, 1)) {
            return -2;
        }
        if (beat == 0) {
            return -3;
        }
        return what == 0 ? acts.get(act).cell : acts.get(act).start;
    }

    /** Values kept, time by time, while many rounds go on. */
    int kept(int act) {
        if (!isAct(act)) {
            return -1;
        }
        if (beat == 0) {
            return -3;
        }
        if (!isGood()) {
            return -5;
        }
        Act is = acts.get(act);
        int[] keptAt = new int[5000];
        for (int round = 0; round < 350; round++) {
            int from = is.start + is.length() + round * beat;
            int to = from;
            for (Act user : acts) {
                for (int side = 0; side < 2 && user.kind != 0; side++) {
                    if (user.from[side] == act) {
                        to = Math.max(to, user.start + (round + user.ahead[side]) * beat);
                    }
                }
            }
            for (int time = from; time <= to; time++) {
                keptAt[time]++;
            }
        }
        int most = 0;
        for (int kept : keptAt) {
            most = Math.max(most, kept);
        }
        return most;
    }

    int step(int newRounds) {
        if (!in(newRounds, 1, 60)) {
            return -2;
        }
        if (beat == 0) {
            return -3;
        }
        if (!isGood()) {
            return -5;
        }
        rounds = newRounds;
        int end = 0;
        for (Act act : acts) {
            end = Math.max(end, act.start + act.length() + (rounds - 1) * beat);
        }
        return end;
    }

    long stepped(int act, int round) {
        if (rounds == 0) {
            return LOST - 3;
        }
        return isAct(act) && in(round, 0, rounds - 1) ? plain(act, round) : LOST - 1;
    }

    int works(int cell, int atBeat) {
        if (!isCell(cell)) {
            return -1;
        }
        if (!in(atBeat, 0, 10000)) {
            return -2;
        }
        if (beat == 0) {
            return -3;
        }
        if (!isGood()) {
            return -5;
        }
        for (int act = 0; act < acts.size(); act++) {
            for (int time = acts.get(act).start; time <= atBeat; time += beat) {
                if (time == atBeat && acts.get(act).cell == cell) {
                    return act;
                }
            }
        }
        return -6;
    }

    // ---- 3 bounds, the search

    int bound(int which) {
        if (!in(which, 0, 1)) {
            return -2;
        }
        if (acts.isEmpty()) {
            return -3;
        }
        if (!isSound()) {
            return -5;
        }
        return which == 0 ? places() : ringsBound();
    }

    private int places() {
        int open = 0, openProducts = 0, products = 0;
        for (int cell = 0; cell < rows * columns; cell++) {
            open += 1 - (broken >> cell & 1);
            openProducts += 1 - ((broken | noProducts) >> cell & 1);
        }
        for (Act act : acts) {
            products += act.kind == 3 ? 1 : 0;
        }
        for (int n = 1; n <= 8; n++) {
            if (n * open >= acts.size() && n * openProducts >= products) {
                return n;
            }
        }
        return -6;
    }

    private int ringsBound() {
        int least = 1;
        for (int[] ring : rings()) {
            while (ring[0] > least * ring[1]) {
                least++;
            }
        }
        return least;
    }

    int find() {
        if (acts.isEmpty()) {
            return -3;
        }
        if (!isSound()) {
            return -5;
        }
        int all = 0;
        int low = places() == -6 ? 13 : Math.max(places(), ringsBound());
        for (int n = low; n <= 12; n++) {
            ModelSearch search = new ModelSearch(n);
            boolean found = search.place(0);
            if (search.spent) {
                return -7;
            }
            all += search.made;
            if (found) {
                beat = n;
                rounds = 0;
                tries = all;
                search.tell();
                return n;
            }
        }
        tries = all;
        return -6;
    }

    /** The search of one beat, act by act. */
    private final class ModelSearch {
        final int n;
        final int[] cell = new int[8];
        final int[] left = new int[8];
        int made;
        boolean spent;

        ModelSearch(int n) {
            this.n = n;
        }

        boolean place(int act) {
            if (act == acts.size()) {
                return true;
            }
            for (cell[act] = 0; cell[act] < rows * columns; cell[act]++) {
                for (left[act] = 0; left[act] < n; left[act]++) {
                    if (made == 20000) {
                        spent = true;
                        return false;
                    }
                    made++;
                    if (goes(act) && place(act + 1)) {
                        return true;
                    }
                    if (spent) {
                        return false;
                    }
                }
            }
            return false;
        }

        private boolean goes(int act) {
            boolean product = acts.get(act).kind == 3;
            if ((broken >> cell[act] & 1) == 1 || product && (noProducts >> cell[act] & 1) == 1) {
                return false;
            }
            for (int other = 0; other < act; other++) {
                if (cell[other] == cell[act] && left[other] == left[act]) {
                    return false;
                }
            }
            return raised(act + 1) != null;
        }

        /** Starts raised from the left-overs on until all is in time; null if they rise beyond all need. */
        int[] raised(int placed) {
            int[] starts = left.clone();
            boolean late = true;
            while (late) {
                late = false;
                for (int v = 0; v < placed; v++) {
                    Act act = acts.get(v);
                    for (int side = 0; side < 2 && act.kind != 0; side++) {
                        int u = act.from[side];
                        if (u < placed) {
                            int comes = starts[u] + acts.get(u).length() + wayOrNowhere(cell[u], cell[v]);
                            while (starts[v] + act.ahead[side] * n < comes) {
                                starts[v] += n;
                                late = true;
                                if (starts[v] > 400) {
                                    return null;
                                }
                            }
                        }
                    }
                }
            }
            return starts;
        }

        void tell() {
            int[] starts = raised(acts.size());
            for (int act = 0; act < acts.size(); act++) {
                acts.get(act).cell = cell[act];
                acts.get(act).start = starts[act];
            }
        }
    }

    int tries() {
        return tries;
    }

    int told(int what) {
        int open = rows * columns - Integer.bitCount(broken);
        return in(what, 0, 5) ? new int[] {acts.size(), rows, columns, open, beat, rounds}[what] : -2;
    }
}

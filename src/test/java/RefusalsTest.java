/** Calls that are refused change nothing: an object that refused one answers all as its twin that was not asked. */
final class RefusalsTest {
    private static final Check CHECK = new Check("RefusalsTest");
    private static final int NEW = 0, NOT_SOUND = 1, NO_PLAN = 2, FULL_AND_STEPPED = 3, NOT_GOOD = 4, NO_CELL = 5,
        SPENT = 6, STATES = 7;

    /** A call that is refused, as told. */
    private interface Refused {
        long by(LoopBoard x);
    }

    public static void main(String[] args) {
        for (int state = 0; state < STATES; state++) {
            refusedInAllStates(state);
            questionsInAllStates(state);
        }
        refusedByTheState();
        refusedByTheSearch();
        CHECK.end();
    }

    private static LoopBoard inState(int state) {
        LoopBoard x = new LoopBoard();
        if (state == NEW) {
            return x;
        }
        x.first(-3);
        x.input(2, 1);
        x.act(3, 0, 0, 1, 1);
        x.find();
        x.multiplies(2, false);
        x.breaks(3, true);
        switch (state) {
            case NOT_SOUND: x.act(1, 2, 0, 0, 0); x.plan(7); x.lay(1, 2, 3); break;
            case NO_PLAN: x.act(2, 1, 1, 0, 0); break;
            case FULL_AND_STEPPED: fill(x); break;
            case NOT_GOOD: x.plan(5); x.lay(0, 1, 299); break;
            case NO_CELL: x.plan(4); x.lay(0, 1, 6); breakAll(x); break;
            default: askTooMuch(x); break;
        }
        return x;
    }

    private static void fill(LoopBoard x) {
        for (int act = 2; act < 8; act++) {
            x.act(1, act - 1, 0, act, 1);
        }
        x.find();
        x.step(60);
    }

    private static void breakAll(LoopBoard x) {
        for (int cell = 0; cell < 4; cell++) {
            x.breaks(cell, true);
        }
    }

    /** A loop for which the search of beat 2 is spent, with a plan that is good and stepped. */
    private static void askTooMuch(LoopBoard x) {
        x.clear();
        x.board(2, 3);
        x.act(1, 2, 1, 4, 1);
        x.act(1, 1, 2, 5, 2);
        x.input(1, 0);
        x.act(3, 2, 1, 5, 1);
        x.act(1, 3, 1, 4, 1);
        x.act(1, 0, 1, 5, 1);
        x.multiplies(2, false);
        x.multiplies(3, false);
        x.plan(12);
        for (int act = 0; act < 6; act++) {
            x.lay(act, 0, 2 * act);
        }
        x.step(3);
    }

    /** All that an object tells; what changes it is asked last. */
    private static long[] seen(LoopBoard x) {
        long[] seen = new long[300];
        int n = 0;
        for (int what = 0; what < 6; what++) {
            seen[n++] = x.told(what);
        }
        seen[n++] = x.tries();
        seen[n++] = x.sound();
        seen[n++] = x.bound(0);
        seen[n++] = x.bound(1);
        seen[n++] = x.lacks();
        for (int act = 0; act < 8; act++) {
            for (int what = 0; what < 8; what++) {
                seen[n++] = x.about(act, what);
            }
            seen[n++] = x.laid(act, 0);
            seen[n++] = x.laid(act, 1);
            seen[n++] = x.kept(act);
            for (int round = 0; round <= 60; round += 20) {
                seen[n++] = x.plain(act, round);
                seen[n++] = x.stepped(act, Math.min(round, 59));
            }
        }
        for (int cell = 0; cell < 9; cell++) {
            seen[n++] = x.way(0, cell);
            for (int beat = 0; beat < 4; beat++) {
                seen[n++] = x.works(cell, beat);
            }
        }
        for (int cell = 0; cell < 9; cell++) {
            seen[n++] = x.breaks(cell, false);
            seen[n++] = x.multiplies(cell, true);
        }
        seen[n++] = x.first(0);
        seen[n++] = x.clear();
        return seen;
    }

    private static void refused(int state, String call, long want, Refused refused) {
        LoopBoard x = inState(state);
        String at = "state " + state + ", " + call;
        CHECK.due(at, refused.by(x), want);
        long[] due = seen(inState(state));
        long[] got = seen(x);
        for (int i = 0; i < due.length; i++) {
            CHECK.due("behind " + at + ", answer " + i, got[i], due[i]);
        }
    }

    /** Calls whose numbers are never as told. */
    private static void refusedInAllStates(int state) {
        refused(state, "input(-1001, 0)", -2, x -> x.input(-1001, 0));
        refused(state, "input(0, 1001)", -2, x -> x.input(0, 1001));
        refused(state, "act(0, 0, 0, 0, 0)", -2, x -> x.act(0, 0, 0, 0, 0));
        refused(state, "act(6, 0, 0, 0, 0)", -2, x -> x.act(6, 0, 0, 0, 0));
        refused(state, "act(1, 8, 0, 0, 0)", -2, x -> x.act(1, 8, 0, 0, 0));
        refused(state, "act(1, 0, 0, -1, 0)", -2, x -> x.act(1, 0, 0, -1, 0));
        refused(state, "act(1, 0, 4, 0, 0)", -2, x -> x.act(1, 0, 4, 0, 0));
        refused(state, "act(1, 0, 0, 0, -1)", -2, x -> x.act(1, 0, 0, 0, -1));
        refused(state, "board(0, 3)", -2, x -> x.board(0, 3));
        refused(state, "board(3, 4)", -2, x -> x.board(3, 4));
        refused(state, "breaks(-1, true)", -1, x -> x.breaks(-1, true));
        refused(state, "breaks(6, true)", -1, x -> x.breaks(6, true));
        refused(state, "multiplies(-1, false)", -1, x -> x.multiplies(-1, false));
        refused(state, "multiplies(6, false)", -1, x -> x.multiplies(6, false));
        refused(state, "plan(0)", -2, x -> x.plan(0));
        refused(state, "plan(13)", -2, x -> x.plan(13));
        refused(state, "lay(8, 0, 0)", -1, x -> x.lay(8, 0, 0));
        refused(state, "lay(0, 6, 0)", -1, x -> x.lay(0, 6, 0));
        refused(state, "lay(0, 1, 300)", state == NEW ? -1 : -2, x -> x.lay(0, 1, 300));
        refused(state, "lay(0, 1, -1)", state == NEW ? -1 : -2, x -> x.lay(0, 1, -1));
        refused(state, "step(0)", -2, x -> x.step(0));
        refused(state, "step(61)", -2, x -> x.step(61));
    }

    private static void questionsInAllStates(int state) {
        long lost = -10000000000L;
        boolean stands = state == FULL_AND_STEPPED || state == SPENT;
        refused(state, "plain(8, 0)", lost - 1, x -> x.plain(8, 0));
        refused(state, "plain(0, 61)", lost - 1, x -> x.plain(0, 61));
        refused(state, "about(8, 0)", -2001, x -> x.about(8, 0));
        refused(state, "about(0, 8)", state == NEW ? -2001 : -2002, x -> x.about(0, 8));
        refused(state, "way(6, 0)", -1, x -> x.way(6, 0));
        refused(state, "laid(8, 0)", -1, x -> x.laid(8, 0));
        refused(state, "laid(0, 2)", state == NEW ? -1 : -2, x -> x.laid(0, 2));
        refused(state, "kept(8)", -1, x -> x.kept(8));
        refused(state, "stepped(8, 0)", stands ? lost - 1 : lost - 3, x -> x.stepped(8, 0));
        refused(state, "works(6, 0)", -1, x -> x.works(6, 0));
        refused(state, "works(0, 10001)", -2, x -> x.works(0, 10001));
        refused(state, "bound(2)", -2, x -> x.bound(2));
        refused(state, "told(6)", -2, x -> x.told(6));
    }

    private static void refusedByTheState() {
        refused(NEW, "plan(1)", -3, x -> x.plan(1));
        refused(NEW, "step(1)", -3, x -> x.step(1));
        refused(NEW, "find()", -3, LoopBoard::find);
        refused(NEW, "lay(0, 0, 0)", -1, x -> x.lay(0, 0, 0));
        refused(NO_PLAN, "lay(0, 0, 0)", -3, x -> x.lay(0, 0, 0));
        refused(NO_PLAN, "step(1)", -3, x -> x.step(1));
        refused(NO_PLAN, "kept(0)", -3, x -> x.kept(0));
        refused(NOT_SOUND, "step(1)", -5, x -> x.step(1));
        refused(NOT_SOUND, "find()", -5, LoopBoard::find);
        refused(NOT_SOUND, "lacks()", -5, LoopBoard::lacks);
        refused(NOT_SOUND, "kept(0)", -5, x -> x.kept(0));
        refused(NOT_GOOD, "step(60)", -5, x -> x.step(60));
        refused(NOT_GOOD, "works(0, 0)", -5, x -> x.works(0, 0));
        refused(NO_CELL, "step(1)", -5, x -> x.step(1));
        refused(FULL_AND_STEPPED, "input(0, 0)", -4, x -> x.input(0, 0));
        refused(FULL_AND_STEPPED, "act(1, 0, 0, 0, 0)", -4, x -> x.act(1, 0, 0, 0, 0));
    }

    private static void refusedByTheSearch() {
        refused(SPENT, "find()", -7, LoopBoard::find);
        CHECK.due("a step stands there", inState(SPENT).told(5), 3);
        CHECK.due("tries stand there", inState(SPENT).tries() > 0 ? 1 : 0, 1);
        CHECK.due("a step of 60 rounds", inState(FULL_AND_STEPPED).told(5), 60);
        CHECK.due("a plan that isn't good", inState(NOT_GOOD).lacks(), 42);
    }
}

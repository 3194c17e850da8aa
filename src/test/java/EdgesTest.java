/** The edges that sentences of the document name, and that no test of a promise's own looks at. */
final class EdgesTest {
    private static final long LOST = -10000000000L;
    private static final Check CHECK = new Check("EdgesTest");

    public static void main(String[] args) {
        theLastCalls();
        eightActsAgain();
        roundsBelowZero();
        intsWrapWhenStepped();
        comparedBehindTheWrap();
        ringsOfEight();
        lastActsLastRound();
        theNinthCell();
        theNinthCellWorks();
        leftOversOfFarStarts();
        leftOversOfBeatOne();
        firstAndLastStarts();
        plansOfTheFirstAndLastBeat();
        theLastOperandOfTheSearch();
        ringsBeyondTheLastBeat();
        searchedUpToTheLastBeat();
        allTriesOfOneBeat();
        spentBelowABeatThatGoes();
        noTriesWithoutACell();
        CHECK.end();
    }

    private static void due(String call, long got, long want) {
        CHECK.due(call, got, want);
    }

    /** "An object is used for at most 512 calls after it has been made": the last of them still go. */
    private static void theLastCalls() {
        LoopBoard x = new LoopBoard();
        due("call 1", x.input(1, 0), 0);
        due("call 2", x.act(3, 0, 0, 1, 1), 1);
        for (int call = 3; call <= 505; call++) {
            due("call " + call, x.first(call), call == 3 ? 0 : call - 1);
        }
        due("call 506", x.find(), 2);
        due("call 507", x.tries(), 3);
        due("call 508", x.step(60), 121);
        due("call 509", x.stepped(1, 0), 0);
        due("call 510", x.stepped(0, 59), 59);
        due("call 511", x.board(3, 3), 9);
        due("call 512", x.clear(), 2);
    }

    /** "THE LOOP has ACTS, 8 at most, numbered from 0 on": also behind a clear() of a full one. */
    private static void eightActsAgain() {
        LoopBoard x = new LoopBoard();
        for (int time = 0; time < 3; time++) {
            for (int act = 0; act < 8; act++) {
                due("act " + act, act % 2 == time % 2 ? x.input(1, 0) : x.act(1, 0, 1, 0, 1), act);
            }
            due("a ninth", x.input(1, 0), -4);
            due("a ninth", x.act(1, 0, 1, 0, 1), -4);
            due("clear", x.clear(), 8);
        }
    }

    /** "of ROUNDS below 0 it is the FIRST number": the last such round and the first other one, of each DISTANCE. */
    private static void roundsBelowZero() {
        for (int distance = 0; distance <= 3; distance++) {
            LoopBoard x = new LoopBoard();
            x.first(1000);
            x.input(5, 7);
            x.input(0, 0);
            x.act(1, 0, distance, 1, 0);
            x.act(1, 1, 0, 0, distance);
            x.find();
            x.step(5);
            for (int round = 0; round < 5; round++) {
                long want = round < distance ? 1000 : 5 * (round - distance) + 7;
                due("first operand, distance " + distance + ", round " + round, x.plain(2, round), want);
                due("second operand, distance " + distance + ", round " + round, x.plain(3, round), want);
                due("stepped, distance " + distance + ", round " + round, x.stepped(2, round), want);
                due("stepped, distance " + distance + ", round " + round, x.stepped(3, round), want);
            }
        }
    }

    /** "Ints wrap." */
    private static void intsWrapWhenStepped() {
        LoopBoard x = new LoopBoard();
        due("first", x.first(Integer.MAX_VALUE), 0);
        x.act(1, 0, 1, 0, 1);
        x.act(3, 1, 1, 1, 1);
        x.act(2, 0, 0, 2, 1);
        x.find();
        x.step(3);
        due("a sum", x.stepped(0, 0), -2);
        due("a sum", x.stepped(0, 1), -4);
        due("a product", x.stepped(1, 0), 1);
        due("a difference", x.stepped(2, 0), Integer.MAX_VALUE);
        due("a difference", x.stepped(2, 1), Integer.MAX_VALUE - 2);
        due("first", x.first(Integer.MIN_VALUE), Integer.MAX_VALUE);
        due("a sum of the least", x.plain(0, 0), 0);
        due("first", x.first(65536), Integer.MIN_VALUE);
        due("a product beyond all bits", x.plain(1, 0), 0);
        due("first", x.first(0), 65536);
    }

    /** The lesser and the greater are those of the ints that stand behind the wrap. */
    private static void comparedBehindTheWrap() {
        LoopBoard x = new LoopBoard();
        x.first(Integer.MAX_VALUE);
        x.input(0, 1);
        x.act(1, 0, 0, 1, 1);
        x.act(4, 1, 0, 0, 0);
        x.act(5, 1, 0, 0, 0);
        x.act(4, 0, 1, 0, 2);
        x.act(5, 2, 0, 2, 1);
        due("a sum", x.plain(1, 0), Integer.MIN_VALUE);
        due("the lesser", x.plain(2, 0), Integer.MIN_VALUE);
        due("the greater", x.plain(3, 0), 1);
        due("the lesser of two alike", x.plain(4, 0), Integer.MAX_VALUE);
        due("the lesser of two far apart", x.plain(4, 1), 1);
        due("the greater of two far apart", x.plain(5, 0), Integer.MAX_VALUE);
    }

    /** "no ring of OPERANDS has DISTANCE 0 all round": a ring of all acts, and of one. */
    private static void ringsOfEight() {
        for (int apart = -1; apart < 8; apart++) {
            LoopBoard x = new LoopBoard();
            for (int act = 0; act < 8; act++) {
                int distance = act == apart ? 1 : 0;
                x.act(1, (act + 1) % 8, distance, (act + 1) % 8, distance);
            }
            due("a ring with a distance at act " + apart, x.sound(), apart < 0 ? 0 : 1);
        }
        for (int distance = 0; distance < 4; distance++) {
            LoopBoard x = new LoopBoard();
            x.act(1, 0, distance, 0, 3);
            due("a ring of one, distance " + distance, x.sound(), distance == 0 ? 0 : 1);
            x.clear();
            x.act(1, 0, 3, 0, distance);
            due("a ring of one, second operand, distance " + distance, x.sound(), distance == 0 ? 0 : 1);
        }
    }

    /** VALUES of the last act that there may be, in the last ROUNDS that may be asked. */
    private static void lastActsLastRound() {
        LoopBoard x = new LoopBoard();
        for (int act = 0; act < 8; act++) {
            x.input(act + 1, act);
        }
        due("plain(7, 60)", x.plain(7, 60), 487);
        due("plain(7, 61)", x.plain(7, 61), LOST - 1);
        due("plain(8, 60)", x.plain(8, 60), LOST - 1);
        due("find", x.find(), 2);
        due("step(60)", x.step(60), 120);
        due("stepped(7, 59)", x.stepped(7, 59), 479);
        due("stepped(7, 60)", x.stepped(7, 60), LOST - 1);
        due("stepped(8, 59)", x.stepped(8, 59), LOST - 1);
        due("step(1)", x.step(1), 2);
        due("stepped(7, 0)", x.stepped(7, 0), 7);
        due("stepped(7, 1)", x.stepped(7, 1), LOST - 1);
    }

    /** "THE BOARD anew (nothing BROKEN, products everywhere)": up to the last CELL of the largest one. */
    private static void theNinthCell() {
        LoopBoard x = new LoopBoard();
        due("board(3, 3)", x.board(3, 3), 9);
        for (int cell = 0; cell < 9; cell++) {
            due("breaks", x.breaks(cell, true), 0);
            due("multiplies", x.multiplies(cell, false), 1);
        }
        due("told(3)", x.told(3), 0);
        due("board(3, 3)", x.board(3, 3), 9);
        due("told(3)", x.told(3), 9);
        for (int cell = 0; cell < 9; cell++) {
            due("breaks", x.breaks(cell, false), 0);
            due("multiplies", x.multiplies(cell, true), 1);
        }
        due("breaks(9)", x.breaks(9, true), -1);
        due("multiplies(9)", x.multiplies(9, false), -1);
        due("way(8, 9)", x.way(8, 9), -1);
        due("way(0, 8)", x.way(0, 8), 4);
        due("a smaller board", x.board(2, 2), 4);
        for (int cell = 0; cell < 4; cell++) {
            due("at first products everywhere", new LoopBoard().multiplies(cell, false), 1);
            due("at first nothing broken", new LoopBoard().breaks(cell, true), 0);
        }
    }

    private static void theNinthCellWorks() {
        LoopBoard x = new LoopBoard();
        x.board(3, 3);
        x.act(3, 0, 1, 0, 1);
        for (int cell = 0; cell < 8; cell++) {
            x.breaks(cell, true);
        }
        due("bound(0)", x.bound(0), 1);
        due("find", x.find(), 2);
        due("its cell", x.laid(0, 0), 8);
        due("tries", x.tries(), 17);
        due("works(8, 10000)", x.works(8, 10000), 0);
        due("works(7, 10000)", x.works(7, 10000), -6);
        due("works(9, 0)", x.works(9, 0), -1);
        due("lay(0, 8, 299)", x.lay(0, 8, 299), 1);
        due("lay(0, 9, 0)", x.lay(0, 9, 0), -1);
        due("works(8, 299)", x.works(8, 299), 0);
        due("works(8, 297)", x.works(8, 297), -6);
        x.breaks(8, true);
        due("bound(0)", x.bound(0), -6);
        due("lacks", x.lacks(), 10);
    }

    /** "the same START by n left over", where STARTS are rounds apart. */
    private static void leftOversOfFarStarts() {
        LoopBoard x = new LoopBoard();
        x.input(1, 0);
        x.input(1, 0);
        for (int beat = 1; beat <= 12; beat++) {
            x.plan(beat);
            int whole = 299 / beat * beat;
            x.lay(1, 0, whole);
            due("start " + whole + " at beat " + beat, x.lacks(), 31);
            x.lay(1, 0, whole - 1);
            due("start " + (whole - 1) + " at beat " + beat, x.lacks(), beat == 1 ? 31 : 0);
            x.lay(0, 0, 299);
            x.lay(1, 0, 299 % beat);
            due("start " + 299 % beat + " beside 299 at beat " + beat, x.lacks(), 31);
            x.lay(1, 1, 299 % beat);
            due("on another cell", x.lacks(), 0);
        }
    }

    /** At BEAT 1 all STARTS have the same left-over. */
    private static void leftOversOfBeatOne() {
        LoopBoard x = new LoopBoard();
        x.board(1, 1);
        x.input(1, 0);
        due("one act", x.find(), 1);
        due("its start", x.laid(0, 1), 0);
        x.input(1, 0);
        due("two acts", x.find(), 2);
        x.plan(1);
        due("start 0 beside 0", x.lacks(), 31);
        x.lay(1, 0, 299);
        due("start 299 beside 0", x.lacks(), 31);
        x.breaks(0, true);
        due("a broken cell ahead of it", x.lacks(), 10);
    }

    /** "a START (0 to 299)": both go, and are stepped and worked by. */
    private static void firstAndLastStarts() {
        LoopBoard x = new LoopBoard();
        x.act(3, 0, 1, 0, 1);
        x.plan(12);
        x.lay(0, 0, 299);
        due("step(60)", x.step(60), 299 + 2 + 59 * 12);
        due("works(0, 298)", x.works(0, 298), -6);
        due("works(0, 299)", x.works(0, 299), 0);
        due("works(0, 287)", x.works(0, 287), -6);
        due("kept(0)", x.kept(0), 1);
        x.lay(0, 0, 0);
        due("step(60)", x.step(60), 2 + 59 * 12);
        due("step(1)", x.step(1), 2);
        due("works(0, 0)", x.works(0, 0), 0);
        due("lay start 300", x.lay(0, 0, 300), -2);
        due("lay start -1", x.lay(0, 0, -1), -2);
    }

    /** "A PLAN with a BEAT n (1 to 12)". */
    private static void plansOfTheFirstAndLastBeat() {
        LoopBoard x = new LoopBoard();
        x.input(1, 0);
        due("plan(0)", x.plan(0), -2);
        due("plan(1)", x.plan(1), 1);
        due("works(0, 9999) at beat 1", x.works(0, 9999), 0);
        due("step(60) at beat 1", x.step(60), 60);
        due("plan(12)", x.plan(12), 1);
        due("works(0, 9999) at beat 12", x.works(0, 9999), -6);
        due("works(0, 9996) at beat 12", x.works(0, 9996), 0);
        due("step(60) at beat 12", x.step(60), 709);
        due("plan(13)", x.plan(13), -2);
        due("told(4)", x.told(4), 12);
        due("told(5)", x.told(5), 60);
    }

    /** "by all OPERANDS among ACTS placed so far": down to the second one of the eighth act. */
    private static void theLastOperandOfTheSearch() {
        LoopBoard x = new LoopBoard();
        for (int act = 0; act < 6; act++) {
            x.input(1, 0);
        }
        x.act(3, 0, 0, 7, 0);
        x.act(1, 0, 0, 6, 1);
        due("bound(1)", x.bound(1), 3);
        due("find", x.find(), 3);
        due("cell of act 6", x.laid(6, 0), 2);
        due("start of act 6", x.laid(6, 1), 3);
        due("cell of act 7", x.laid(7, 0), 2);
        due("start of act 7", x.laid(7, 1), 2);
        due("tries", x.tries(), 1 + 2 + 3 + 4 + 5 + 6 + 7 + 9);
        due("lacks", x.lacks(), 0);
    }

    /** "BEATS from the greater one of both BOUNDS up to 12": a bound of 13 is just beyond. */
    private static void ringsBeyondTheLastBeat() {
        LoopBoard x = new LoopBoard();
        x.input(1, 0);
        x.find();
        x.clear();
        for (int act = 0; act < 7; act++) {
            x.act(act == 3 ? 1 : 3, (act + 6) % 7, act == 0 ? 1 : 0, (act + 6) % 7, act == 0 ? 1 : 0);
        }
        due("bound(1)", x.bound(1), 13);
        due("tries of the find ahead", x.tries(), 1);
        due("find", x.find(), -6);
        due("tries of no beat", x.tries(), 0);
        due("told(4)", x.told(4), 0);
    }

    /**
     * "NONE: there is none up to 12": six products in a ring that leaves no beat to spare, and a seventh that would
     * have to start with one of them, wherever it is. Beat 13 would do.
     */
    private static void searchedUpToTheLastBeat() {
        LoopBoard x = new LoopBoard();
        x.board(1, 1);
        x.act(3, 1, 0, 6, 0);
        x.act(3, 2, 0, 0, 1);
        x.act(3, 3, 1, 0, 1);
        x.act(3, 4, 0, 0, 0);
        x.act(3, 5, 0, 0, 0);
        x.act(3, 0, 0, 1, 0);
        x.act(3, 2, 0, 1, 1);
        due("sound", x.sound(), 1);
        due("bound(0)", x.bound(0), 7);
        due("bound(1)", x.bound(1), 12);
        x.plan(5);
        x.lay(6, 0, 77);
        due("find", x.find(), -6);
        due("tries of beat 12", x.tries(), 12828);
        due("the plan is left", x.told(4), 5);
        due("the plan is left", x.laid(6, 1), 77);
    }

    /** "SPENT beyond 20000 TRIES": a beat whose tries are all made with the 20000th is not, and the next one goes. */
    private static void allTriesOfOneBeat() {
        LoopBoard x = new LoopBoard();
        x.breaks(1, true);
        x.breaks(2, true);
        x.act(3, 3, 0, 3, 0);
        x.act(3, 0, 1, 2, 1);
        x.act(3, 1, 0, 1, 0);
        x.act(3, 2, 0, 4, 0);
        x.act(3, 1, 0, 3, 1);
        due("bound(0)", x.bound(0), 3);
        due("bound(1)", x.bound(1), 8);
        due("find", x.find(), 9);
        due("tries of beats 8 and 9", x.tries(), 20000 + 311);
        due("lacks", x.lacks(), 0);
    }

    /** "SPENT: the search of some BEAT was (none was found below it)": one above it is not looked at. */
    private static void spentBelowABeatThatGoes() {
        LoopBoard x = new LoopBoard();
        x.multiplies(1, false);
        x.multiplies(3, false);
        x.breaks(3, true);
        x.act(1, 4, 2, 5, 2);
        x.act(3, 3, 0, 2, 1);
        x.act(3, 2, 2, 1, 0);
        x.act(1, 5, 0, 3, 2);
        x.act(3, 3, 0, 5, 2);
        x.act(1, 3, 1, 2, 1);
        due("bound(0)", x.bound(0), 2);
        due("bound(1)", x.bound(1), 6);
        due("spent at beat 6, though beat 7 would go", x.find(), -7);
        due("told(4)", x.told(4), 0);
        due("tries", x.tries(), 0);
    }

    /** "NONE: no CELL can do an ACT": there is no BEAT to begin with. */
    private static void noTriesWithoutACell() {
        LoopBoard x = new LoopBoard();
        x.board(1, 1);
        x.input(1, 0);
        due("find", x.find(), 1);
        due("tries", x.tries(), 1);
        x.breaks(0, true);
        due("bound(0), no cell", x.bound(0), -6);
        due("find, no cell", x.find(), -6);
        due("tries, no cell", x.tries(), 0);
        x.breaks(0, false);
        due("find", x.find(), 1);
        x.multiplies(0, false);
        due("bound(0), no product", x.bound(0), 1);
        x.act(3, 0, 0, 0, 0);
        due("bound(0), no cell for it", x.bound(0), -6);
        due("find, no cell for it", x.find(), -6);
        due("tries, no cell for it", x.tries(), 0);
        due("no plan", x.told(4), 0);
    }
}

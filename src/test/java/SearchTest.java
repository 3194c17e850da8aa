/** Promises 21 to 24: bounds, the search and what is told. */
final class SearchTest {
    private static final Check CHECK = new Check("SearchTest");

    public static void main(String[] args) {
        boundOfPlaces();
        boundOfPlacesNone();
        boundOfRings();
        boundRefusals();
        firstPlaces();
        triesOnCellsThatCan();
        leastStarts();
        beatsFromTheBound();
        theLastBeat();
        findRefusals();
        findNone();
        lastTryThatCounts();
        spentSearches();
        triesOfAllBeats();
        findTakesThePlan();
        toldThings();
        CHECK.end();
    }

    private static void due(String call, long got, long want) {
        CHECK.due(call, got, want);
    }

    private static void boundOfPlaces() {
        LoopBoard x = new LoopBoard();
        int[] onFour = {1, 1, 1, 1, 2, 2, 2, 2};
        int[] onThree = {1, 1, 1, 2, 2, 2, 3, 3};
        for (int act = 0; act < 8; act++) {
            x.input(1, 0);
            due("acts by four cells", x.bound(0), onFour[act]);
            x.breaks(2, true);
            due("acts by three cells", x.bound(0), onThree[act]);
            x.breaks(2, false);
        }
        x.clear();
        x.input(1, 0);
        for (int act = 1; act < 6; act++) {
            x.act(3, 0, 0, 0, 0);
        }
        due("products on all", x.bound(0), 2);
        x.multiplies(0, false);
        due("five products by three, six acts by four", x.bound(0), 2);
        x.multiplies(1, false);
        due("five products by two", x.bound(0), 3);
        x.multiplies(2, false);
        due("five products by one", x.bound(0), 5);
        x.multiplies(2, true);
        x.breaks(2, true);
        due("a broken cell does no products", x.bound(0), 5);
        x.multiplies(1, true);
        x.breaks(1, true);
        x.breaks(0, true);
        due("the acts are more", x.bound(0), 6);
    }

    private static void boundOfPlacesNone() {
        LoopBoard x = new LoopBoard();
        x.board(1, 2);
        x.input(1, 0);
        x.breaks(0, true);
        x.multiplies(1, false);
        due("no products asked", x.bound(0), 1);
        x.act(3, 1, 2, 1, 1);
        due("no cell for products", x.bound(0), -6);
        due("rings all the same", x.bound(1), 2);
        x.breaks(0, false);
        due("a cell for products", x.bound(0), 1);
        x.breaks(0, true);
        x.breaks(1, true);
        due("no cell", x.bound(0), -6);
        x.clear();
        x.input(1, 0);
        due("no cell for an input", x.bound(0), -6);
        due("find", x.find(), -6);
        due("told(3)", x.told(3), 0);
    }

    private static void boundOfRings() {
        LoopBoard x = new LoopBoard();
        x.input(1, 0);
        x.act(1, 0, 0, 0, 0);
        due("no rings", x.bound(1), 1);
        x.act(1, 2, 3, 2, 2);
        due("a ring with distance to spare", x.bound(1), 1);
        x.act(3, 3, 3, 0, 0);
        due("two beats by three", x.bound(1), 1);
        x.act(3, 0, 0, 4, 1);
        due("two beats by one, the second operand", x.bound(1), 2);
        x.act(3, 6, 0, 0, 0);
        x.act(3, 5, 2, 0, 0);
        due("four beats by two", x.bound(1), 2);
        x.act(1, 5, 0, 6, 0);
        due("no ring more", x.bound(1), 2);
        x.clear();
        x.act(1, 1, 2, 1, 2);
        x.act(3, 2, 0, 2, 0);
        x.act(3, 0, 0, 0, 0);
        due("five beats by two, cut up", x.bound(1), 3);
        x.clear();
        x.act(3, 1, 3, 2, 0);
        x.act(1, 0, 0, 0, 0);
        x.act(1, 1, 0, 1, 1);
        due("the shorter of two rings asks more: distance counts", x.bound(1), -5);
        x.clear();
        x.act(3, 1, 3, 2, 1);
        x.act(1, 0, 0, 0, 0);
        x.act(1, 1, 0, 1, 0);
        due("four beats by one, three by three", x.bound(1), 4);
        x.clear();
        for (int act = 0; act < 8; act++) {
            x.act(3, (act + 1) % 8, act == 7 ? 1 : 0, (act + 1) % 8, act == 7 ? 2 : 0);
        }
        due("the greatest of all", x.bound(1), 16);
        due("find beyond 12", x.find(), -6);
        due("its tries", x.tries(), 0);
    }

    private static void boundRefusals() {
        LoopBoard x = new LoopBoard();
        due("bound, no acts", x.bound(0), -3);
        due("bound, no acts", x.bound(1), -3);
        due("bound outside ahead of no acts", x.bound(2), -2);
        due("bound(-1)", x.bound(-1), -2);
        for (int cell = 0; cell < 4; cell++) {
            x.breaks(cell, true);
        }
        due("bound, no acts ahead of no cells", x.bound(0), -3);
        x.act(3, 1, 0, 1, 0);
        due("bound, not sound", x.bound(1), -5);
        due("bound, not sound ahead of no cells", x.bound(0), -5);
        due("bound outside ahead of not sound", x.bound(2), -2);
    }

    private static void laidAs(LoopBoard x, int[][] cellsAndStarts) {
        for (int act = 0; act < cellsAndStarts.length; act++) {
            due("cell of act " + act, x.laid(act, 0), cellsAndStarts[act][0]);
            due("start of act " + act, x.laid(act, 1), cellsAndStarts[act][1]);
        }
    }

    private static void firstPlaces() {
        LoopBoard x = new LoopBoard();
        x.board(1, 2);
        x.input(1, 0);
        x.input(1, 0);
        x.input(1, 0);
        due("find", x.find(), 2);
        laidAs(x, new int[][] {{0, 0}, {0, 1}, {1, 0}});
        due("tries", x.tries(), 6);
        x.input(1, 0);
        x.act(1, 0, 0, 3, 0);
        due("find", x.find(), 3);
        laidAs(x, new int[][] {{0, 0}, {0, 1}, {0, 2}, {1, 0}, {1, 4}});
        due("tries", x.tries(), 1 + 2 + 3 + 4 + 5);
    }

    private static void triesOnCellsThatCan() {
        LoopBoard x = new LoopBoard();
        x.board(1, 3);
        x.breaks(0, true);
        x.multiplies(1, false);
        x.input(1, 0);
        x.act(3, 0, 0, 1, 2);
        x.act(3, 0, 0, 1, 2);
        due("find", x.find(), 2);
        laidAs(x, new int[][] {{1, 0}, {2, 2}, {2, 3}});
        due("tries on a broken cell and on one without products count", x.tries(), 3 + 5 + 6);
        due("good", x.lacks(), 0);
    }

    private static void leastStarts() {
        LoopBoard x = new LoopBoard();
        x.board(1, 1);
        x.act(1, 2, 0, 1, 3);
        x.act(1, 0, 0, 2, 0);
        x.act(1, 3, 0, 3, 0);
        x.input(1, 0);
        due("find", x.find(), 4);
        laidAs(x, new int[][] {{0, 8}, {0, 9}, {0, 6}, {0, 3}});
        due("tries", x.tries(), 10);
        x.clear();
        x.act(1, 1, 3, 1, 3);
        x.input(1, 0);
        due("find", x.find(), 2);
        laidAs(x, new int[][] {{0, 0}, {0, 1}});
        x.clear();
        x.board(1, 3);
        x.breaks(1, true);
        x.input(1, 0);
        x.act(1, 0, 3, 0, 3);
        x.act(1, 0, 3, 1, 3);
        due("find", x.find(), 3);
        laidAs(x, new int[][] {{0, 0}, {0, 1}, {0, 2}});
    }

    private static void beatsFromTheBound() {
        LoopBoard x = new LoopBoard();
        x.board(1, 2);
        x.act(1, 1, 0, 1, 0);
        x.act(1, 0, 2, 0, 2);
        due("rings", x.bound(1), 1);
        due("places", x.bound(0), 1);
        due("a way each way is too long for one beat", x.find(), 2);
        due("tries of beat 1 and of beat 2", x.tries(), 6 + 3);
        laidAs(x, new int[][] {{0, 2}, {0, 1}});
    }

    /** A ring of four sums and four products that leaves no beat to spare on one cell. */
    private static void theLastBeat() {
        LoopBoard x = new LoopBoard();
        Model model = new Model();
        x.board(1, 1);
        model.board(1, 1);
        for (int act = 0; act < 8; act++) {
            int kind = act < 4 ? 1 : 3;
            int distance = act == 0 ? 1 : 0;
            x.act(kind, (act + 7) % 8, distance, (act + 7) % 8, distance);
            model.act(kind, (act + 7) % 8, distance, (act + 7) % 8, distance);
        }
        due("rings", x.bound(1), 12);
        due("find", x.find(), 12);
        laidAs(x, new int[][] {{0, 0}, {0, 1}, {0, 2}, {0, 3}, {0, 4}, {0, 6}, {0, 8}, {0, 10}});
        due("find of the model", model.find(), 12);
        due("tries", x.tries(), model.tries());
        due("good", x.lacks(), 0);
    }

    private static void findRefusals() {
        LoopBoard x = new LoopBoard();
        due("find, no acts", x.find(), -3);
        x.input(1, 0);
        due("find", x.find(), 1);
        due("tries", x.tries(), 1);
        x.act(1, 2, 0, 1, 1);
        due("find, not sound", x.find(), -5);
        due("tries stay", x.tries(), 1);
        for (int cell = 0; cell < 4; cell++) {
            x.breaks(cell, true);
        }
        due("find, not sound ahead of no cell", x.find(), -5);
        x.clear();
        due("find, no acts ahead of no cell", x.find(), -3);
        due("tries stay", x.tries(), 1);
        x.plan(1);
        x.input(1, 0);
        x.plan(7);
        x.act(1, 7, 0, 7, 0);
        x.plan(8);
        due("find, not sound", x.find(), -5);
        due("a refused find leaves the plan", x.told(4), 8);
    }

    private static void findNone() {
        LoopBoard x = new LoopBoard();
        x.input(1, 0);
        x.find();
        x.plan(5);
        x.lay(0, 3, 2);
        x.step(4);
        due("tries", x.tries(), 1);
        for (int cell = 0; cell < 4; cell++) {
            x.breaks(cell, true);
        }
        due("find, no cell", x.find(), -6);
        due("tries of none", x.tries(), 0);
        due("the plan is left", x.told(4), 5);
        due("the plan is left", x.laid(0, 0), 3);
        x.board(1, 3);
        x.clear();
        for (int act = 0; act < 7; act++) {
            x.act(3, (act + 1) % 7, act == 6 ? 1 : 0, (act + 1) % 7, act == 6 ? 1 : 0);
        }
        due("rings", x.bound(1), 14);
        due("find beyond 12", x.find(), -6);
        due("tries", x.tries(), 0);
        x.clear();
        x.breaks(1, true);
        x.breaks(2, true);
        x.multiplies(0, false);
        for (int act = 0; act < 8; act++) {
            x.input(1, 0);
        }
        due("one cell for eight", x.find(), 8);
        due("tries", x.tries(), 36);
        x.plan(3);
        x.clear();
        x.act(3, 0, 1, 0, 1);
        due("no cell for a product", x.find(), -6);
        due("tries of none", x.tries(), 0);
    }

    /** A search that takes its 20000th try, and others that would take one more. */
    private static void lastTryThatCounts() {
        LoopBoard x = new LoopBoard();
        x.board(1, 3);
        x.act(1, 5, 1, 0, 2);
        x.act(1, 2, 1, 1, 1);
        x.act(1, 2, 2, 1, 0);
        x.input(1, 0);
        x.act(3, 2, 1, 0, 0);
        x.act(1, 4, 0, 5, 2);
        x.act(3, 1, 1, 6, 2);
        x.multiplies(0, false);
        x.breaks(2, true);
        due("found by the last try", x.find(), 4);
        due("all tries", x.tries(), 20000);
        due("good", x.lacks(), 0);

        x = new LoopBoard();
        x.board(3, 2);
        x.act(3, 5, 1, 4, 1);
        x.act(3, 2, 2, 4, 2);
        x.act(1, 2, 2, 4, 2);
        x.act(1, 1, 1, 4, 1);
        x.act(3, 1, 0, 0, 1);
        x.act(1, 5, 2, 0, 0);
        x.plan(11);
        due("one try more is asked", x.find(), -7);
        due("tries", x.tries(), 0);
        due("the plan", x.told(4), 11);
    }

    private static LoopBoard spentBoard() {
        LoopBoard x = new LoopBoard();
        x.input(1, 0);
        due("find", x.find(), 1);
        x.clear();
        x.board(2, 3);
        x.act(1, 2, 1, 4, 1);
        x.act(1, 1, 2, 5, 2);
        x.input(1, 0);
        x.act(3, 2, 1, 5, 1);
        x.act(1, 3, 1, 4, 1);
        x.act(1, 0, 1, 5, 1);
        x.multiplies(2, false);
        x.multiplies(3, false);
        return x;
    }

    private static void spentSearches() {
        LoopBoard x = spentBoard();
        due("spent, no plan ahead", x.find(), -7);
        due("no plan", x.told(4), 0);
        due("a refused call leaves the tries", x.tries(), 1);
        x.plan(12);
        for (int act = 0; act < 6; act++) {
            x.lay(act, 0, 2 * act);
        }
        due("step", x.step(2), 23);
        due("spent, a plan ahead", x.find(), -7);
        due("its beat stays", x.told(4), 12);
        due("its start stays", x.laid(5, 1), 10);
        due("its cell stays", x.laid(5, 0), 0);
        due("its step stands", x.told(5), 2);
    }

    private static void triesOfAllBeats() {
        LoopBoard x = new LoopBoard();
        x.board(1, 3);
        x.act(3, 4, 1, 2, 1);
        x.act(1, 6, 2, 3, 2);
        x.act(1, 6, 2, 0, 0);
        x.act(1, 6, 1, 0, 1);
        x.act(1, 5, 2, 2, 0);
        x.act(3, 4, 0, 2, 1);
        x.act(3, 1, 1, 2, 1);
        x.act(1, 6, 1, 6, 0);
        x.multiplies(1, false);
        x.multiplies(2, false);
        due("rings", x.bound(1), 4);
        due("places", x.bound(0), 3);
        due("found a beat on", x.find(), 5);
        due("tries of both beats, more than one may take", x.tries(), 21018);
        due("good", x.lacks(), 0);
        x.clear();
        due("tries stay behind clear", x.tries(), 21018);
        x.input(1, 0);
        due("find", x.find(), 1);
        due("tries of the latest", x.tries(), 1);
    }

    private static void findTakesThePlan() {
        LoopBoard x = new LoopBoard();
        x.input(1, 0);
        x.act(1, 0, 0, 0, 1);
        x.plan(9);
        x.lay(0, 1, 17);
        due("find", x.find(), 1);
        due("its beat", x.told(4), 1);
        laidAs(x, new int[][] {{0, 0}, {1, 2}});
        due("step", x.step(2), 4);
        due("find again", x.find(), 1);
        due("no step stands", x.told(5), 0);
        due("lay on what was found", x.lay(1, 2, 2), 1);
        due("good", x.lacks(), 0);
    }

    private static void toldThings() {
        LoopBoard x = new LoopBoard();
        x.board(3, 2);
        x.input(1, 0);
        x.input(1, 0);
        x.breaks(5, true);
        x.breaks(4, true);
        due("find", x.find(), 1);
        x.step(7);
        int[] due = {2, 3, 2, 4, 1, 7};
        for (int what = 0; what < 6; what++) {
            due("told(" + what + ")", x.told(what), due[what]);
        }
        due("told(6)", x.told(6), -2);
        due("told(-1)", x.told(-1), -2);
        due("told far off", x.told(Integer.MIN_VALUE), -2);
    }
}

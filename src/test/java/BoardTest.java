/** Promises 9 to 12: the board and its ways. */
final class BoardTest {
    private static final Check CHECK = new Check("BoardTest");

    public static void main(String[] args) {
        sizes();
        boardsAnew();
        breaking();
        multiplying();
        cellsKnown();
        ways();
        waysRoundBrokenCells();
        waysOnAllBoards();
        steppedEndsByTheBoard();
        CHECK.end();
    }

    private static void due(String call, long got, long want) {
        CHECK.due(call, got, want);
    }

    private static void sizes() {
        LoopBoard x = new LoopBoard();
        for (int rows = 1; rows <= 3; rows++) {
            for (int columns = 1; columns <= 3; columns++) {
                due("board", x.board(rows, columns), rows * columns);
                due("rows", x.told(1), rows);
                due("columns", x.told(2), columns);
                due("cells not broken", x.told(3), rows * columns);
            }
        }
        x.board(2, 3);
        due("board rows 0", x.board(0, 2), -2);
        due("board rows 4", x.board(4, 2), -2);
        due("board columns 0", x.board(2, 0), -2);
        due("board columns 4", x.board(2, 4), -2);
        due("board rows -1", x.board(-1, -1), -2);
        due("board far off", x.board(Integer.MAX_VALUE, Integer.MIN_VALUE), -2);
        due("rows stay", x.told(1), 2);
        due("columns stay", x.told(2), 3);
    }

    private static void boardsAnew() {
        LoopBoard x = new LoopBoard();
        x.input(1, 0);
        x.breaks(1, true);
        x.multiplies(2, false);
        x.plan(3);
        x.step(1);
        due("a refused board", x.board(4, 4), -2);
        due("its plan stays", x.told(4), 3);
        due("its step stays", x.told(5), 1);
        due("its broken cell stays", x.told(3), 3);
        due("the same board anew", x.board(2, 2), 4);
        due("nothing broken", x.told(3), 4);
        due("no plan", x.told(4), 0);
        due("no step", x.told(5), 0);
        due("not broken", x.breaks(1, false), 0);
        due("products everywhere", x.multiplies(2, true), 1);
        due("acts stay", x.told(0), 1);
    }

    private static void breaking() {
        LoopBoard x = new LoopBoard();
        x.input(1, 0);
        x.plan(2);
        due("breaks", x.breaks(3, true), 0);
        due("breaks again", x.breaks(3, true), 1);
        due("not broken", x.told(3), 3);
        due("the plan stays", x.told(4), 2);
        due("mends", x.breaks(3, false), 1);
        due("mends again", x.breaks(3, false), 0);
        due("not broken", x.told(3), 4);
        due("breaks 0", x.breaks(0, true), 0);
        due("a cell of a plan broken", x.lacks(), 10);
        due("mends 0", x.breaks(0, false), 1);
        due("the plan is good again", x.lacks(), 0);
    }

    private static void multiplying() {
        LoopBoard x = new LoopBoard();
        x.act(3, 0, 1, 0, 1);
        x.plan(2);
        due("multiplies no more", x.multiplies(0, false), 1);
        due("again", x.multiplies(0, false), 0);
        due("the plan stays", x.told(4), 2);
        due("a product where none is done", x.lacks(), 20);
        due("multiplies", x.multiplies(0, true), 0);
        due("again", x.multiplies(0, true), 1);
        due("the plan is good", x.lacks(), 0);
        due("a cell apart", x.multiplies(1, false), 1);
        due("is no matter", x.lacks(), 0);
    }

    private static void cellsKnown() {
        LoopBoard x = new LoopBoard();
        x.board(2, 3);
        int[] unknown = {-1, 6, 8, 9, Integer.MIN_VALUE, Integer.MAX_VALUE};
        for (int cell : unknown) {
            due("breaks " + cell, x.breaks(cell, true), -1);
            due("multiplies " + cell, x.multiplies(cell, false), -1);
            due("way from " + cell, x.way(cell, 0), -1);
            due("way to " + cell, x.way(0, cell), -1);
            due("way at " + cell, x.way(cell, cell), -1);
        }
        due("breaks 5", x.breaks(5, true), 0);
        due("multiplies 5", x.multiplies(5, false), 1);
        due("way to 5", x.way(5, 5), 0);
    }

    private static void ways() {
        LoopBoard x = new LoopBoard();
        due("beside", x.way(0, 1), 1);
        due("below", x.way(0, 2), 1);
        due("across", x.way(0, 3), 2);
        due("across", x.way(1, 2), 2);
        due("itself", x.way(1, 1), 0);
        x.board(2, 3);
        due("the end of a row has none beside it below", x.way(2, 3), 3);
        due("below", x.way(2, 5), 1);
        x.board(3, 2);
        due("rows of two", x.way(1, 2), 2);
        due("rows of two", x.way(0, 5), 3);
        x.board(1, 3);
        due("a row", x.way(2, 0), 2);
        x.board(3, 1);
        due("a column", x.way(0, 2), 2);
    }

    private static void waysRoundBrokenCells() {
        LoopBoard x = new LoopBoard();
        x.board(3, 3);
        x.breaks(3, true);
        x.breaks(4, true);
        due("all the way round", x.way(0, 6), 6);
        due("and back", x.way(6, 0), 6);
        due("to a broken one", x.way(0, 3), -6);
        due("from a broken one", x.way(3, 0), -6);
        due("between broken ones", x.way(3, 4), -6);
        due("a broken one to itself", x.way(4, 4), 0);
        x.breaks(5, true);
        due("cut off", x.way(0, 6), -6);
        due("not cut off", x.way(6, 8), 2);
        x.multiplies(1, false);
        due("through a cell without products", x.way(0, 2), 2);
        x.breaks(4, false);
        due("mended", x.way(0, 6), 4);
    }

    /** Ways by spreading step by step, on every board with every set of broken cells. */
    private static void waysOnAllBoards() {
        LoopBoard x = new LoopBoard();
        for (int rows = 1; rows <= 3; rows++) {
            for (int columns = 1; columns <= 3; columns++) {
                int cells = rows * columns;
                x.board(rows, columns);
                for (int broken = 0; broken < 1 << cells; broken++) {
                    x = new LoopBoard();
                    x.board(rows, columns);
                    for (int cell = 0; cell < cells; cell++) {
                        x.breaks(cell, (broken >> cell & 1) == 1);
                    }
                    for (int from = 0; from < cells; from++) {
                        for (int to = 0; to < cells; to++) {
                            String call = "way on " + rows + " by " + columns + ", broken " + broken + ", " + from + " to " + to;
                            due(call, x.way(from, to), Model.wayOn(rows, columns, broken, from, to));
                        }
                    }
                }
            }
        }
    }

    private static void steppedEndsByTheBoard() {
        LoopBoard x = new LoopBoard();
        x.input(1, 0);
        x.plan(1);
        due("step", x.step(4), 4);
        due("refused breaks", x.breaks(4, true), -1);
        due("refused multiplies", x.multiplies(4, true), -1);
        due("stands behind refusals", x.told(5), 4);
        x.breaks(3, true);
        due("breaks ends it", x.told(5), 0);
        due("step", x.step(4), 4);
        x.multiplies(3, false);
        due("multiplies ends it", x.told(5), 0);
        due("step", x.step(4), 4);
        due("way doesn't", x.way(0, 1), 1);
        due("stands", x.told(5), 4);
    }
}

/** Long mixed runs of calls, answered by the program and by the model; the runs are the same each time. */
final class RandomRunsTest {
    private static final int RUNS = 120;
    private static final int CALLS = 500;
    private static final Check CHECK = new Check("RandomRunsTest");

    private long seed;
    private LoopBoard board;
    private Model model;
    private String call;
    private long got;
    private long want;
    private int spent;
    private int found;
    private int none;
    private int good;

    public static void main(String[] args) {
        RandomRunsTest test = new RandomRunsTest();
        for (int run = 0; run < RUNS; run++) {
            test.run(run);
        }
        CHECK.holds("some searches are spent: " + test.spent, test.spent > 10);
        CHECK.holds("some searches find: " + test.found, test.found > 200);
        CHECK.holds("some searches find none: " + test.none, test.none > 50);
        CHECK.holds("some plans step: " + test.good, test.good > 200);
        CHECK.end();
    }

    /** A number from 0 to below the bound. */
    private int any(int bound) {
        seed = seed * 6364136223846793005L + 1442695040888963407L;
        return (int) ((seed >>> 33) % bound);
    }

    /** Mostly a number from low to high, now and then one just or far outside. */
    private int near(int low, int high) {
        switch (any(60)) {
            case 0: return low - 1;
            case 1: return high + 1;
            case 2: return any(2) == 0 ? Integer.MIN_VALUE : Integer.MAX_VALUE;
            default: return low + any(high - low + 1);
        }
    }

    private void run(int run) {
        seed = run * 7919L + 17;
        board = new LoopBoard();
        model = new Model();
        int taste = any(4);
        for (int number = 0; number < CALLS; number++) {
            oneCall(taste);
            CHECK.due("run " + run + ", call " + number + ": " + call, got, want);
        }
    }

    private void answers(String name, long ofBoard, long ofModel) {
        call = name;
        got = ofBoard;
        want = ofModel;
    }

    private void oneCall(int taste) {
        int choice = any(100);
        if (choice < 22) {
            loopCall(taste);
        } else if (choice < 45) {
            boardCall();
        } else if (choice < 85) {
            planCall();
        } else {
            searchCall();
        }
    }

    private void loopCall(int taste) {
        int choice = any(40);
        if (choice < 5) {
            int p = any(3) == 0 ? near(-1000, 1000) : any(9) - 4;
            int q = any(3) == 0 ? near(-1000, 1000) : any(9) - 4;
            answers("input(" + p + ", " + q + ")", board.input(p, q), model.input(p, q));
        } else if (choice < 18) {
            workCall(taste);
        } else if (choice < 20) {
            int v = any(4) == 0 ? any(1000000) * 4001 : any(7) - 3;
            answers("first(" + v + ")", board.first(v), model.first(v));
        } else if (choice < 22) {
            answers("clear()", board.clear(), model.clear());
        } else if (choice < 24) {
            answers("sound()", board.sound(), model.sound());
        } else if (choice < 34) {
            int act = near(0, 7);
            int round = near(0, 60);
            answers("plain(" + act + ", " + round + ")", board.plain(act, round), model.plain(act, round));
        } else {
            int act = near(0, 7);
            int what = near(0, 7);
            answers("about(" + act + ", " + what + ")", board.about(act, what), model.about(act, what));
        }
    }

    private void workCall(int taste) {
        int there = model.told(0);
        int kind = any(3) == 0 ? 3 : near(1, 5);
        int reach = taste == 0 ? 8 : Math.max(1, Math.min(8, there + (any(6) == 0 ? 1 : 0)));
        int a = any(50) == 0 ? near(0, 7) : any(reach);
        int b = any(50) == 0 ? near(0, 7) : any(reach);
        int da = a >= there ? 1 + any(3) : any(3) == 0 ? near(0, 3) : 0;
        int db = b >= there ? 1 + any(3) : any(3) == 0 ? near(0, 3) : 0;
        String name = "act(" + kind + ", " + a + ", " + da + ", " + b + ", " + db + ")";
        answers(name, board.act(kind, a, da, b, db), model.act(kind, a, da, b, db));
    }

    private void boardCall() {
        int choice = any(40);
        int cell = near(0, model.told(1) * model.told(2) - 1);
        if (choice < 2) {
            int rows = near(1, 3);
            int columns = near(1, 3);
            answers("board(" + rows + ", " + columns + ")", board.board(rows, columns), model.board(rows, columns));
        } else if (choice < 8) {
            boolean is = any(3) == 0;
            answers("breaks(" + cell + ", " + is + ")", board.breaks(cell, is), model.breaks(cell, is));
        } else if (choice < 14) {
            boolean can = any(3) > 0;
            answers("multiplies(" + cell + ", " + can + ")", board.multiplies(cell, can), model.multiplies(cell, can));
        } else if (choice < 27) {
            int to = near(0, 8);
            answers("way(" + cell + ", " + to + ")", board.way(cell, to), model.way(cell, to));
        } else {
            int what = near(0, 5);
            answers("told(" + what + ")", board.told(what), model.told(what));
        }
    }

    private void planCall() {
        int act = near(0, Math.max(0, model.told(0) - 1));
        int cell = near(0, model.told(1) * model.told(2) - 1);
        int choice = any(80);
        if (choice < 3) {
            int beat = near(1, 12);
            answers("plan(" + beat + ")", board.plan(beat), model.plan(beat));
        } else if (choice < 11) {
            int start = any(3) == 0 ? near(0, 299) : near(0, 40);
            String name = "lay(" + act + ", " + cell + ", " + start + ")";
            answers(name, board.lay(act, cell, start), model.lay(act, cell, start));
        } else if (choice < 22) {
            answers("lacks()", board.lacks(), model.lacks());
        } else if (choice < 34) {
            int what = near(0, 1);
            answers("laid(" + act + ", " + what + ")", board.laid(act, what), model.laid(act, what));
        } else if (choice < 46) {
            answers("kept(" + act + ")", board.kept(act), model.kept(act));
        } else if (choice < 56) {
            int rounds = near(1, 60);
            answers("step(" + rounds + ")", board.step(rounds), model.step(rounds));
            good += want > 0 ? 1 : 0;
        } else if (choice < 68) {
            int round = near(0, Math.max(0, model.told(5) - 1));
            String name = "stepped(" + act + ", " + round + ")";
            answers(name, board.stepped(act, round), model.stepped(act, round));
        } else {
            int beat = any(3) == 0 ? near(0, 10000) : any(60);
            answers("works(" + cell + ", " + beat + ")", board.works(cell, beat), model.works(cell, beat));
        }
    }

    private void searchCall() {
        int choice = any(20);
        if (choice < 6) {
            int which = near(0, 1);
            answers("bound(" + which + ")", board.bound(which), model.bound(which));
        } else if (choice < 14) {
            answers("find()", board.find(), model.find());
            spent += want == -7 ? 1 : 0;
            none += want == -6 ? 1 : 0;
            found += want > 0 ? 1 : 0;
        } else {
            answers("tries()", board.tries(), model.tries());
        }
    }
}

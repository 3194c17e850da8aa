/** Promises 1 to 8: a new object and the loop. */
final class LoopTest {
    private static final long LOST = -10000000000L;
    private static final Check CHECK = new Check("LoopTest");

    public static void main(String[] args) {
        newObject();
        inputs();
        acts();
        fullLoops();
        planGoesWithActs();
        firstNumber();
        clearing();
        soundness();
        plainValues();
        plainWraps();
        plainRefusals();
        aboutActs();
        CHECK.end();
    }

    private static void due(String call, long got, long want) {
        CHECK.due(call, got, want);
    }

    private static void newObject() {
        LoopBoard x = new LoopBoard();
        due("new told(0)", x.told(0), 0);
        due("new told(1)", x.told(1), 2);
        due("new told(2)", x.told(2), 2);
        due("new told(3)", x.told(3), 4);
        due("new told(4)", x.told(4), 0);
        due("new told(5)", x.told(5), 0);
        due("new tries", x.tries(), 0);
        due("new sound", x.sound(), 1);
        due("new lacks", x.lacks(), -3);
        due("new stepped", x.stepped(0, 0), LOST - 3);
        due("new multiplies", x.multiplies(3, true), 1);
        due("new breaks", x.breaks(3, false), 0);
        due("new first", x.first(4), 0);
        due("objects apart", new LoopBoard().first(0), 0);
    }

    private static void inputs() {
        LoopBoard x = new LoopBoard();
        due("input low edge", x.input(-1000, -1000), 0);
        due("input high edge", x.input(1000, 1000), 1);
        due("input p below", x.input(-1001, 0), -2);
        due("input p above", x.input(1001, 0), -2);
        due("input q below", x.input(0, -1001), -2);
        due("input q above", x.input(0, 1001), -2);
        due("input far off", x.input(Integer.MIN_VALUE, Integer.MAX_VALUE), -2);
        due("told(0) behind refusals", x.told(0), 2);
        due("plain of p and q", x.plain(0, 60), -61000);
        due("plain of q", x.plain(1, 0), 1000);
    }

    private static void acts() {
        LoopBoard x = new LoopBoard();
        due("act kind 0", x.act(0, 0, 0, 0, 0), -2);
        due("act kind 6", x.act(6, 0, 0, 0, 0), -2);
        due("act kind -1", x.act(-1, 0, 0, 0, 0), -2);
        due("act a below", x.act(1, -1, 0, 0, 0), -2);
        due("act a above", x.act(1, 8, 0, 0, 0), -2);
        due("act da below", x.act(1, 0, -1, 0, 0), -2);
        due("act da above", x.act(1, 0, 4, 0, 0), -2);
        due("act b below", x.act(1, 0, 0, -1, 0), -2);
        due("act b above", x.act(1, 0, 0, 8, 0), -2);
        due("act db below", x.act(1, 0, 0, 0, -1), -2);
        due("act db above", x.act(1, 0, 0, 0, 4), -2);
        due("told(0) behind refusals", x.told(0), 0);
        due("act edges", x.act(5, 7, 3, 7, 3), 0);
        due("act edges low", x.act(1, 0, 0, 0, 0), 1);
        due("told(0)", x.told(0), 2);
    }

    private static void fullLoops() {
        LoopBoard x = new LoopBoard();
        for (int act = 0; act < 8; act++) {
            due("input " + act, act % 2 == 0 ? x.input(act, 0) : x.act(1, 0, 0, 0, 0), act);
        }
        due("plan", x.plan(4), 1);
        due("input, full", x.input(0, 0), -4);
        due("act, full", x.act(1, 0, 0, 0, 0), -4);
        due("input outside ahead of full", x.input(1001, 0), -2);
        due("act outside ahead of full", x.act(1, 0, 0, 0, 4), -2);
        due("told(0), full", x.told(0), 8);
        due("the last value of the last input", x.plain(6, 60), 360);
        due("the last value of the last act", x.plain(7, 60), 0);
        due("the last act's second operand", x.about(7, 4), 0);
        due("plan stays at refusals", x.told(4), 4);
    }

    private static LoopBoard planned() {
        LoopBoard x = new LoopBoard();
        x.input(1, 0);
        x.plan(5);
        due("planned", x.told(4), 5);
        due("planned step", x.step(2), 6);
        return x;
    }

    private static void planGoesWithActs() {
        LoopBoard x = planned();
        due("input", x.input(1, 0), 1);
        due("no plan behind input", x.told(4), 0);
        due("no step behind input", x.told(5), 0);
        x = planned();
        due("act", x.act(1, 0, 0, 0, 0), 1);
        due("no plan behind act", x.told(4), 0);
        due("no step behind act", x.stepped(0, 0), LOST - 3);
        x = planned();
        due("refused input", x.input(5000, 0), -2);
        due("refused act", x.act(9, 0, 0, 0, 0), -2);
        due("plan behind refusals", x.told(4), 5);
        due("step behind refusals", x.told(5), 2);
        due("clear", x.clear(), 1);
        due("no plan behind clear", x.told(4), 0);
        due("no step behind clear", x.told(5), 0);
    }

    private static void firstNumber() {
        LoopBoard x = planned();
        due("first of a new loop", x.first(Integer.MIN_VALUE), 0);
        due("plan stays behind first", x.told(4), 5);
        due("no step behind first", x.told(5), 0);
        due("first again", x.first(7), Integer.MIN_VALUE);
        due("clear", x.clear(), 1);
        due("act", x.act(1, 0, 1, 0, 2), 0);
        due("first stays behind clear", x.plain(0, 0), 14);
        due("plain with 7", x.plain(0, 1), 21);
        due("first to 1", x.first(1), 7);
        due("plain anew", x.plain(0, 1), 3);
        due("board leaves first", x.board(1, 1), 1);
        due("first to 0", x.first(0), 1);
    }

    private static void clearing() {
        LoopBoard x = new LoopBoard();
        due("clear of none", x.clear(), 0);
        x.act(1, 0, 0, 0, 0);
        x.input(1, 2);
        x.input(1, 2);
        due("not sound", x.sound(), 0);
        due("clear", x.clear(), 3);
        due("told(0) behind clear", x.told(0), 0);
        due("sound behind clear", x.sound(), 1);
        due("plain behind clear", x.plain(0, 0), LOST - 1);
        due("input from 0 on again", x.input(3, 4), 0);
        due("no operands left", x.about(0, 2), -6);
        due("no distance left", x.about(0, 3), 0);
        due("plain of the new act", x.plain(0, 2), 10);
    }

    private static void soundness() {
        LoopBoard x = new LoopBoard();
        x.act(1, 1, 0, 2, 0);
        due("operands to come", x.sound(), 0);
        x.input(0, 1);
        due("one to come", x.sound(), 0);
        x.act(2, 1, 0, 1, 0);
        due("all there", x.sound(), 1);
        x.act(1, 3, 1, 0, 0);
        due("itself at distance 1", x.sound(), 1);
        x.act(1, 3, 1, 4, 0);
        due("itself at distance 0", x.sound(), 0);

        x = new LoopBoard();
        x.act(1, 1, 0, 1, 3);
        x.act(1, 2, 0, 2, 2);
        x.act(1, 0, 1, 0, 1);
        due("ring of three with a distance", x.sound(), 1);
        x.clear();
        x.act(1, 1, 3, 1, 0);
        x.act(1, 2, 0, 2, 2);
        x.act(1, 0, 1, 0, 0);
        due("ring of three by second operands", x.sound(), 0);
        x.clear();
        x.act(1, 7, 3, 7, 3);
        due("an act not there at a distance", x.sound(), 0);
        for (int act = 1; act < 8; act++) {
            x.input(1, 1);
        }
        due("the eighth is there", x.sound(), 1);
    }

    private static void plainValues() {
        LoopBoard x = new LoopBoard();
        x.input(2, -3);
        x.act(1, 0, 0, 0, 1);
        x.act(2, 0, 0, 1, 0);
        x.act(3, 0, 0, 1, 2);
        x.act(4, 0, 0, 2, 0);
        x.act(5, 0, 3, 1, 0);
        x.first(10);
        long[] in = {-3, -1, 1, 3};
        long[] sums = {7, -4, 0, 4};
        long[] differences = {-10, 3, 1, -1};
        long[] products = {-30, -10, 7, -12};
        long[] lessers = {-10, -1, 1, -1};
        long[] greaters = {10, 10, 10, 4};
        for (int round = 3; round >= 0; round--) {
            due("input", x.plain(0, round), in[round]);
            due("sum", x.plain(1, round), sums[round]);
            due("difference", x.plain(2, round), differences[round]);
            due("product", x.plain(3, round), products[round]);
            due("lesser", x.plain(4, round), lessers[round]);
            due("greater", x.plain(5, round), greaters[round]);
        }
        due("a last round", x.plain(0, 60), 117);
        due("an earlier round behind it", x.plain(5, 0), 10);
        due("rounds told by a new act", x.act(1, 5, 3, 0, 0), 6);
        due("its value", x.plain(6, 2), 11);
        due("its value", x.plain(6, 3), 13);
    }

    private static void plainWraps() {
        LoopBoard x = new LoopBoard();
        x.first(Integer.MAX_VALUE);
        x.act(1, 0, 1, 0, 1);
        x.act(3, 1, 1, 1, 1);
        x.act(2, 2, 1, 0, 0);
        due("sum wraps", x.plain(0, 0), -2);
        due("product wraps", x.plain(1, 0), 1);
        due("difference wraps", x.plain(2, 0), Integer.MIN_VALUE + 1);
        due("sum wraps to 0", x.plain(0, 31), 0);
        x.first(Integer.MIN_VALUE);
        due("product of the least", x.plain(1, 0), 0);
        due("difference of the least", x.plain(2, 0), Integer.MIN_VALUE);
    }

    private static void plainRefusals() {
        LoopBoard x = new LoopBoard();
        x.input(1, 1);
        due("plain round -1", x.plain(0, -1), LOST - 1);
        due("plain round 61", x.plain(0, 61), LOST - 1);
        due("plain act -1", x.plain(-1, 0), LOST - 1);
        due("plain act 1", x.plain(1, 0), LOST - 1);
        due("plain act far off", x.plain(Integer.MAX_VALUE, Integer.MIN_VALUE), LOST - 1);
        due("plain round 60", x.plain(0, 60), 61);
        x.act(1, 1, 0, 0, 0);
        due("plain not sound", x.plain(0, 0), LOST - 5);
        due("plain unknown ahead of not sound", x.plain(2, 0), LOST - 1);
        due("plain unknown round ahead of not sound", x.plain(0, 61), LOST - 1);
    }

    private static void aboutActs() {
        LoopBoard x = new LoopBoard();
        x.input(-7, 1000);
        x.act(3, 5, 2, 0, 3);
        x.act(5, 0, 0, 2, 1);
        int[][] due = {{0, 1, -6, 0, -6, 0, -7, 1000}, {3, 2, 5, 2, 0, 3, 0, 0}, {5, 1, 0, 0, 2, 1, 0, 0}};
        for (int act = 0; act < due.length; act++) {
            for (int what = 0; what < 8; what++) {
                due("about(" + act + ", " + what + ")", x.about(act, what), due[act][what]);
            }
        }
        due("about what 8", x.about(0, 8), -2002);
        due("about what -1", x.about(0, -1), -2002);
        due("about act 3", x.about(3, 0), -2001);
        due("about act -1", x.about(-1, 0), -2001);
        due("about unknown ahead of outside", x.about(3, 8), -2001);
        x.clear();
        x.act(4, 1, 1, 1, 1);
        x.input(6, 7);
        due("an act where an input was", x.about(0, 6), 0);
        due("an act where an input was", x.about(0, 7), 0);
        due("an input where an act was", x.about(1, 2), -6);
        due("an input where an act was", x.about(1, 4), -6);
        due("an input where an act was", x.about(1, 5), 0);
        for (int kind = 1; kind <= 5; kind++) {
            x.clear();
            x.act(kind, 0, 1, 0, 1);
            due("kind", x.about(0, 0), kind);
            due("length", x.about(0, 1), kind == 3 ? 2 : 1);
        }
    }
}

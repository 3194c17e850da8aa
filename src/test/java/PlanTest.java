/** Promises 13 to 20: plans told, looked over and stepped. */
final class PlanTest {
    private static final long LOST = -10000000000L;
    private static final Check CHECK = new Check("PlanTest");

    public static void main(String[] args) {
        plans();
        laying();
        layRefusals();
        lacksByKinds();
        lacksOfTimes();
        lacksOfWays();
        lackRefusals();
        laidRefusals();
        keptValues();
        keptByBeats();
        keptRefusals();
        stepping();
        stepRefusals();
        steppedEnds();
        steppedRefusals();
        working();
        workRefusals();
        CHECK.end();
    }

    private static void due(String call, long got, long want) {
        CHECK.due(call, got, want);
    }

    private static void plans() {
        LoopBoard x = new LoopBoard();
        due("plan, no acts", x.plan(1), -3);
        due("plan outside ahead of no acts", x.plan(0), -2);
        x.input(1, 0);
        x.input(1, 0);
        due("plan(0)", x.plan(0), -2);
        due("plan(13)", x.plan(13), -2);
        due("plan(-1)", x.plan(-1), -2);
        due("no plan", x.told(4), 0);
        for (int beat = 1; beat <= 12; beat++) {
            due("plan", x.plan(beat), 1);
            due("its beat", x.told(4), beat);
        }
        x.lay(0, 3, 7);
        x.lay(1, 2, 9);
        due("plan(13) behind a plan", x.plan(13), -2);
        due("the plan stays", x.laid(0, 1), 7);
        due("plan anew", x.plan(4), 1);
        for (int act = 0; act < 2; act++) {
            due("at cell 0", x.laid(act, 0), 0);
            due("at start 0", x.laid(act, 1), 0);
        }
        x.act(1, 5, 0, 5, 0);
        due("a plan of a loop not sound", x.plan(2), 1);
    }

    private static void laying() {
        LoopBoard x = new LoopBoard();
        x.input(1, 0);
        x.input(2, 0);
        x.plan(3);
        due("lay", x.lay(1, 3, 299), 1);
        due("cell", x.laid(1, 0), 3);
        due("start", x.laid(1, 1), 299);
        due("the other's cell", x.laid(0, 0), 0);
        due("the other's start", x.laid(0, 1), 0);
        due("lay again", x.lay(1, 0, 0), 1);
        due("cell", x.laid(1, 0), 0);
        due("start", x.laid(1, 1), 0);
        x.breaks(2, true);
        due("lay on a broken cell", x.lay(0, 2, 5), 1);
        due("cell", x.laid(0, 0), 2);
    }

    private static void layRefusals() {
        LoopBoard x = new LoopBoard();
        due("lay, no acts", x.lay(0, 0, 0), -1);
        x.input(1, 0);
        due("lay, no plan", x.lay(0, 0, 0), -3);
        due("lay outside ahead of no plan", x.lay(0, 0, 300), -2);
        due("lay unknown ahead of outside", x.lay(1, 0, 300), -1);
        due("lay unknown cell ahead of outside", x.lay(0, 4, -1), -1);
        x.plan(2);
        x.lay(0, 1, 6);
        x.step(3);
        due("lay act -1", x.lay(-1, 0, 0), -1);
        due("lay act 1", x.lay(1, 0, 0), -1);
        due("lay cell -1", x.lay(0, -1, 0), -1);
        due("lay cell 4", x.lay(0, 4, 0), -1);
        due("lay start -1", x.lay(0, 0, -1), -2);
        due("lay start 300", x.lay(0, 0, 300), -2);
        due("cell stays", x.laid(0, 0), 1);
        due("start stays", x.laid(0, 1), 6);
        due("step stands", x.told(5), 3);
    }

    private static void lacksByKinds() {
        LoopBoard x = new LoopBoard();
        x.input(1, 0);
        x.act(3, 0, 0, 0, 0);
        x.act(1, 1, 0, 0, 0);
        x.act(3, 2, 0, 1, 0);
        x.plan(4);
        x.breaks(2, true);
        x.lay(2, 2, 0);
        x.multiplies(0, false);
        due("a broken cell ahead of all", x.lacks(), 12);
        x.breaks(2, false);
        due("a product where none is done", x.lacks(), 21);
        x.lay(1, 1, 0);
        due("the next product", x.lacks(), 23);
        x.lay(3, 1, 4);
        due("one ahead at the same left-over", x.lacks(), 33);
        x.lay(3, 1, 7);
        due("late, the first operand", x.lacks(), 42);
        x.lay(1, 1, 2);
        due("late, the next act", x.lacks(), 44);
        x.lay(2, 2, 6);
        due("late, the last act", x.lacks(), 46);
        x.lay(3, 1, 9);
        due("good", x.lacks(), 0);
        x.breaks(0, true);
        due("a broken cell of the first", x.lacks(), 10);
        x.lay(0, 1, 300);
        due("a refused lay mends nothing", x.lacks(), 10);
        x.breaks(0, false);
        x.lay(0, 1, 1);
        due("the later one lacks a left-over", x.lacks(), 33);
        x.lay(3, 1, 8);
        x.lay(0, 1, 2);
        due("the least of those that lack one", x.lacks(), 31);
    }

    private static void lacksOfTimes() {
        LoopBoard x = new LoopBoard();
        x.input(1, 0);
        x.act(3, 0, 0, 1, 1);
        x.act(1, 0, 0, 1, 2);
        x.plan(2);
        x.lay(1, 0, 1);
        x.lay(2, 1, 2);
        due("good", x.lacks(), 0);
        x.lay(2, 1, 1);
        due("way of the first operand", x.lacks(), 44);
        x.lay(1, 0, 5);
        x.lay(2, 1, 3);
        due("just in time by distance 2", x.lacks(), 45);
        x.lay(2, 1, 4);
        due("just in time by distance 2", x.lacks(), 0);
        x.lay(0, 0, 6);
        due("the first operand of 1 late", x.lacks(), 42);
        x.plan(1);
        x.lay(1, 1, 9);
        x.lay(2, 2, 30);
        due("a ring on itself asks two beats", x.lacks(), 43);
        x.clear();
        x.act(1, 1, 0, 1, 1);
        x.act(1, 0, 3, 0, 3);
        x.plan(4);
        x.lay(1, 1, 3);
        x.lay(0, 0, 5);
        due("just in time, the first act", x.lacks(), 0);
        x.lay(0, 0, 4);
        due("the first operand of the first act", x.lacks(), 40);
        x.clear();
        x.act(1, 1, 1, 1, 0);
        x.act(1, 0, 3, 0, 3);
        x.plan(4);
        x.lay(1, 1, 3);
        x.lay(0, 0, 4);
        due("the second operand of the first act", x.lacks(), 41);
    }

    private static void lacksOfWays() {
        LoopBoard x = new LoopBoard();
        x.board(1, 3);
        x.input(1, 0);
        x.act(1, 0, 3, 1, 1);
        x.plan(12);
        x.lay(1, 2, 1);
        due("good", x.lacks(), 0);
        x.lay(0, 0, 34);
        due("the last start in time", x.lacks(), 0);
        x.lay(0, 0, 35);
        due("late by one", x.lacks(), 42);
        x.lay(0, 0, 0);
        x.breaks(1, true);
        x.lay(1, 2, 299);
        due("no way", x.lacks(), 42);
        x.lay(0, 2, 0);
        due("way to itself", x.lacks(), 0);
    }

    private static void lackRefusals() {
        LoopBoard x = new LoopBoard();
        due("lacks, no acts", x.lacks(), -3);
        x.act(1, 0, 0, 0, 0);
        due("lacks, no plan, ahead of not sound", x.lacks(), -3);
        x.plan(1);
        due("lacks, not sound", x.lacks(), -5);
        x.breaks(0, true);
        due("lacks, not sound ahead of lacks", x.lacks(), -5);
        x.board(2, 2);
        due("lacks, no plan on a new board", x.lacks(), -3);
    }

    private static void laidRefusals() {
        LoopBoard x = new LoopBoard();
        due("laid, no acts", x.laid(0, 0), -1);
        x.input(1, 0);
        due("laid, no plan", x.laid(0, 0), -3);
        due("laid outside ahead of no plan", x.laid(0, 2), -2);
        due("laid unknown ahead of outside", x.laid(1, 2), -1);
        x.plan(1);
        due("laid what -1", x.laid(0, -1), -2);
        due("laid what 2", x.laid(0, 2), -2);
        due("laid act -1", x.laid(-1, 0), -1);
        due("laid act 1", x.laid(1, 1), -1);
        due("laid", x.laid(0, 0), 0);
        x.clear();
        due("laid behind clear", x.laid(0, 0), -1);
    }

    private static void keptValues() {
        LoopBoard x = new LoopBoard();
        x.input(1, 0);
        x.act(3, 0, 0, 0, 3);
        x.act(1, 1, 2, 1, 0);
        x.plan(2);
        x.lay(1, 1, 4);
        x.lay(2, 1, 7);
        due("good", x.lacks(), 0);
        due("from 1 to 4 and 6, by the later", x.kept(0), 5);
        due("from 6 to 11", x.kept(1), 3);
        due("one that none uses", x.kept(2), 1);
        x.lay(2, 1, 9);
        due("from 6 to 13", x.kept(1), 4);
        x.breaks(1, true);
        due("kept, not good", x.kept(1), -5);
    }

    private static void keptByBeats() {
        LoopBoard x = new LoopBoard();
        x.input(1, 0);
        x.act(2, 0, 0, 0, 0);
        // A beat, the using act's cell and start, and how many are kept.
        int[][] rows = {{1, 1, 2, 2}, {1, 1, 3, 3}, {2, 0, 1, 1}, {2, 1, 2, 1}, {2, 0, 3, 2}, {2, 1, 4, 2}, {3, 1, 3, 1},
            {3, 0, 4, 2}, {3, 1, 6, 2}, {3, 0, 7, 3}, {12, 1, 12, 1}, {12, 0, 13, 2}, {1, 3, 299, 299}};
        for (int[] row : rows) {
            x.plan(row[0]);
            x.lay(1, row[1], row[2]);
            due("kept at beat " + row[0] + ", start " + row[2], x.kept(0), row[3]);
        }
        x.clear();
        x.act(1, 0, 1, 0, 3);
        x.plan(1);
        due("kept by itself", x.kept(0), 3);
        x.plan(12);
        due("kept by itself", x.kept(0), 3);
        x.clear();
        x.act(1, 1, 3, 1, 0);
        x.input(1, 0);
        x.plan(2);
        x.lay(0, 0, 1);
        due("kept by the first operand of the first act", x.kept(1), 4);
        x.clear();
        for (int act = 0; act < 7; act++) {
            x.input(1, 0);
        }
        x.act(1, 0, 0, 6, 1);
        x.plan(8);
        for (int act = 0; act < 8; act++) {
            x.lay(act, 0, act);
        }
        due("kept for the last act's first operand", x.kept(0), 1);
        due("kept for the last act's second operand", x.kept(6), 2);
    }

    private static void keptRefusals() {
        LoopBoard x = new LoopBoard();
        due("kept, no acts", x.kept(0), -1);
        x.input(1, 0);
        x.input(1, 0);
        due("kept, no plan", x.kept(0), -3);
        due("kept unknown ahead of no plan", x.kept(2), -1);
        x.plan(1);
        due("kept unknown ahead of not good", x.kept(-1), -1);
        due("kept, not good", x.kept(0), -5);
        x.lay(1, 1, 0);
        due("kept", x.kept(0), 1);
        x.act(1, 7, 0, 7, 0);
        x.plan(3);
        due("kept, not sound", x.kept(0), -5);
        due("step, not sound", x.step(1), -5);
        due("works, not sound", x.works(0, 0), -5);
    }

    private static void stepping() {
        LoopBoard x = new LoopBoard();
        x.input(3, 1);
        x.act(3, 0, 1, 2, 1);
        x.act(2, 1, 0, 0, 2);
        x.act(5, 2, 1, 3, 2);
        x.first(-5);
        due("find", x.find(), 3);
        due("good", x.lacks(), 0);
        int end = x.step(60);
        int last = 0;
        for (int act = 0; act < 4; act++) {
            last = Math.max(last, x.laid(act, 1) + x.about(act, 1) + 59 * 3);
            for (int round = 0; round < 60; round++) {
                due("stepped beside plain", x.stepped(act, round), x.plain(act, round));
            }
        }
        due("beats of 60 rounds", end, last);
        due("beats of one round", x.step(1), last - 59 * 3);
        due("rounds", x.told(5), 1);
        due("round 0", x.stepped(1, 0), 25);
        due("round 1 no more", x.stepped(1, 1), LOST - 1);

        x = new LoopBoard();
        x.input(1, 0);
        x.act(3, 0, 0, 0, 0);
        x.plan(1);
        x.lay(1, 1, 2);
        due("a product ends two beats on", x.step(1), 4);
        x.lay(0, 0, 0);
        due("five rounds", x.step(5), 8);
        due("square", x.stepped(1, 4), 16);
        x.act(1, 1, 3, 1, 3);
        x.plan(4);
        x.lay(0, 0, 100);
        x.lay(1, 0, 101);
        x.lay(2, 0, 103);
        due("starts far on", x.step(2), 108);
        due("stepped", x.stepped(1, 1), 1);
        x.lay(2, 1, 99);
        due("a last act that ends ahead of others", x.step(2), 107);
    }

    private static void stepRefusals() {
        LoopBoard x = new LoopBoard();
        due("step, no acts", x.step(1), -3);
        due("step outside ahead of no plan", x.step(0), -2);
        x.input(1, 0);
        x.input(1, 0);
        x.plan(1);
        due("step, not good", x.step(1), -5);
        due("step outside ahead of not good", x.step(61), -2);
        due("told(5)", x.told(5), 0);
        x.lay(1, 1, 0);
        due("step(0)", x.step(0), -2);
        due("step(-1)", x.step(-1), -2);
        due("step(61)", x.step(61), -2);
        due("step(60)", x.step(60), 60);
        due("step(61)", x.step(61), -2);
        due("the step that went stands", x.told(5), 60);
        due("its last value", x.stepped(1, 59), 59);
        x.act(1, 3, 0, 3, 0);
        due("step, no plan", x.step(1), -3);
    }

    private static LoopBoard steppedBoard() {
        LoopBoard x = new LoopBoard();
        x.input(1, 0);
        x.plan(2);
        due("step", x.step(3), 5);
        due("stands", x.stepped(0, 2), 2);
        return x;
    }

    private static void steppedEnds() {
        for (int way = 0; way < 10; way++) {
            LoopBoard x = steppedBoard();
            switch (way) {
                case 0: x.input(1, 1); break;
                case 1: x.act(1, 0, 0, 0, 0); break;
                case 2: x.first(3); break;
                case 3: x.clear(); break;
                case 4: x.board(2, 2); break;
                case 5: x.breaks(3, true); break;
                case 6: x.multiplies(3, false); break;
                case 7: x.plan(2); break;
                case 8: x.lay(0, 1, 1); break;
                default: x.find(); break;
            }
            due("told(5), ended by call " + way, x.told(5), 0);
            due("stepped, ended by call " + way, x.stepped(0, 0), LOST - 3);
            due("ahead of unknown", x.stepped(5, 5), LOST - 3);
        }
        LoopBoard x = steppedBoard();
        x.input(2000, 0);
        x.act(7, 0, 0, 0, 0);
        x.board(0, 0);
        x.breaks(4, true);
        x.multiplies(4, true);
        x.plan(0);
        x.lay(1, 0, 0);
        x.lay(0, 0, 500);
        x.step(0);
        x.sound();
        x.plain(0, 60);
        x.lacks();
        x.kept(0);
        x.works(0, 0);
        x.bound(0);
        x.tries();
        due("stands behind refused calls and questions", x.told(5), 3);
        due("its value", x.stepped(0, 1), 1);
    }

    private static void steppedRefusals() {
        LoopBoard x = new LoopBoard();
        due("stepped of a new board", x.stepped(-1, -1), LOST - 3);
        x.input(1, 0);
        x.plan(1);
        due("stepped, no step", x.stepped(0, 0), LOST - 3);
        x.step(60);
        due("stepped act -1", x.stepped(-1, 0), LOST - 1);
        due("stepped act 1", x.stepped(1, 0), LOST - 1);
        due("stepped round -1", x.stepped(0, -1), LOST - 1);
        due("stepped round 60", x.stepped(0, 60), LOST - 1);
        due("stepped round 59", x.stepped(0, 59), 59);
    }

    private static void working() {
        LoopBoard x = new LoopBoard();
        x.input(1, 0);
        x.act(1, 0, 0, 0, 0);
        x.act(1, 0, 0, 0, 0);
        x.plan(3);
        x.lay(0, 1, 1);
        x.lay(1, 1, 5);
        x.lay(2, 0, 3);
        due("good", x.lacks(), 0);
        int[] ofCell1 = {-6, 0, -6, -6, 0, 1, -6, 0, 1};
        int[] ofCell0 = {-6, -6, -6, 2, -6, -6, 2, -6, -6};
        for (int beat = 0; beat < 9; beat++) {
            due("works(1, " + beat + ")", x.works(1, beat), ofCell1[beat]);
            due("works(0, " + beat + ")", x.works(0, beat), ofCell0[beat]);
            due("works(3, " + beat + ")", x.works(3, beat), -6);
        }
        due("works far on", x.works(1, 10000), 0);
        due("works far on", x.works(1, 9998), 1);
        due("works far on", x.works(0, 9999), 2);
        due("rounds go on behind those stepped", x.step(1), 6);
        due("works", x.works(0, 9999), 2);
    }

    private static void workRefusals() {
        LoopBoard x = new LoopBoard();
        due("works, no plan", x.works(0, 0), -3);
        due("works outside ahead of no plan", x.works(0, -1), -2);
        due("works unknown ahead of outside", x.works(4, -1), -1);
        x.input(1, 0);
        x.input(1, 0);
        x.plan(1);
        due("works, not good", x.works(0, 0), -5);
        due("works outside ahead of not good", x.works(0, 10001), -2);
        due("works cell -1", x.works(-1, 0), -1);
        due("works cell 4", x.works(4, 0), -1);
        x.lay(1, 1, 0);
        due("works beat -1", x.works(0, -1), -2);
        due("works beat 10001", x.works(0, 10001), -2);
        due("works", x.works(0, 10000), 0);
    }
}

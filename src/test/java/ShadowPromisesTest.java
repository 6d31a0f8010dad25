/** Promises 10 to 16: box, overlap, crossings, nextCrossing, within, highest, planeFor. */
public final class ShadowPromisesTest {
    private static final int LEAST = Integer.MIN_VALUE;
    private static final int GREATEST = Integer.MAX_VALUE;
    private static final Due due = new Due();

    public static void main(String[] args) {
        box();
        boxWrong();
        overlap();
        overlapWrong();
        crossings();
        crossingsThatTouch();
        crossingsWrong();
        nextCrossing();
        within();
        highest();
        planeFor();
        due.finish();
    }

    private static void fraction(String what, long numerator, long denominator, long wantN, long wantD) {
        due.is(what + ", numerator", numerator, wantN);
        due.is(what + ", denominator", denominator, wantD);
    }

    private static void boxIs(JointedShadows t, int beat, int what, long wantN, long wantD) {
        fraction("box(0, " + beat + ", " + what + ")", t.box(0, beat, what, 0), t.box(0, beat, what, 1), wantN, wantD);
    }

    private static void overlapIs(JointedShadows t, int a, int b, int beat, long wantN, long wantD) {
        String call = "overlap(" + a + ", " + b + ", " + beat + ")";
        fraction(call, t.overlap(a, b, beat, 0), t.overlap(a, b, beat, 1), wantN, wantD);
    }

    private static void box() {
        due.part("promise 10");
        JointedShadows t = new JointedShadows();
        t.addFigure(-3, 4, 30);
        boxIs(t, 0, 0, -10, 1);
        boxIs(t, 0, 3, 40, 3);
        boxIs(t, 0, 4, 0, 1);
        boxIs(t, 0, 5, 0, 1);
        t.addLimb(0, -1, 7, 7);
        boxIs(t, 0, 0, -10, 1);
        boxIs(t, 0, 1, 40, 3);
        boxIs(t, 0, 2, -10, 1);
        boxIs(t, 0, 3, 40, 3);
        boxIs(t, 0, 4, 70, 3);
        boxIs(t, 0, 5, 70, 3);
        t.addLimb(0, 0, 20, 5);
        boxIs(t, 0, 0, -160, 3);
        boxIs(t, 0, 4, 200, 3);
        boxIs(t, 0, 5, 70, 3);
        t.addShift(8, 0, 3, -4, -29);
        boxIs(t, 8, 0, -1300, 1);
        boxIs(t, 8, 2, -700, 1);
        boxIs(t, 8, 3, 0, 1);
        boxIs(t, 7, 3, 40, 3);
        t.setDistance(45);
        boxIs(t, 0, 3, 6, 1);
        boxIs(t, 0, 5, 21, 2);
    }

    private static void boxWrong() {
        due.part("promise 10, wrong values");
        JointedShadows t = new JointedShadows();
        due.is("without figures", t.box(0, 0, 0, 0), Long.MIN_VALUE);
        t.addFigure(0, 0, 50);
        int[][] wrong = {
            {1, 0, 0, 0}, {-1, 0, 0, 0}, {GREATEST, 0, 0, 0}, {0, -1, 0, 0}, {0, 100, 0, 0}, {0, LEAST, 0, 0},
            {0, 0, -1, 0}, {0, 0, 6, 0}, {0, 0, GREATEST, 0}, {0, 0, 0, -1}, {0, 0, 0, 2}, {0, 0, 0, LEAST},
        };
        for (int[] w : wrong) {
            String call = "box(" + w[0] + ", " + w[1] + ", " + w[2] + ", " + w[3] + ")";
            due.is(call, t.box(w[0], w[1], w[2], w[3]), Long.MIN_VALUE);
        }
    }

    private static void overlap() {
        due.part("promise 11");
        JointedShadows t = new JointedShadows();
        t.addFigure(0, 0, 30);
        t.addLimb(0, -1, 10, 1);
        t.addFigure(5, 5, 70);
        t.addLimb(1, -1, 20, 1);
        overlapIs(t, 0, 0, 0, 10000, 9);
        overlapIs(t, 1, 1, 0, 40000, 49);
        overlapIs(t, 0, 1, 0, 302500, 441);
        overlapIs(t, 1, 0, 0, 302500, 441);
        t.addShift(1, 0, -50, 0, 0);
        overlapIs(t, 0, 1, 1, 0, 1);
        t.addShift(2, 0, 50, -50, 0);
        overlapIs(t, 0, 1, 2, 0, 1);
        t.addShift(3, 0, 0, 50, 0);
        overlapIs(t, 0, 1, 3, 302500, 441);
        t.addShift(4, 0, -50, -50, 0);
        overlapIs(t, 0, 1, 4, 0, 1);
        t.addShift(5, 0, 50, 50, 40);
        overlapIs(t, 0, 1, 5, 2500, 49);
        t.addShift(6, 0, -5, 0, 0);
        overlapIs(t, 0, 1, 6, 0, 1);
        JointedShadows thin = new JointedShadows();
        thin.addFigure(0, 0, 100);
        thin.addLimb(0, -1, 1, 1);
        thin.addFigure(0, 0, 99);
        thin.addLimb(1, -1, 1, 5);
        thin.addShift(0, 1, 1, 1, 0);
        overlapIs(thin, 0, 1, 0, 1, 1);
        thin.addShift(1, 1, 0, -1, 0);
        thin.addShift(2, 1, 0, 1, -49);
        thin.addShift(2, 1, 0, 0, -50);
        overlapIs(thin, 0, 1, 1, 0, 1);
        overlapIs(thin, 0, 1, 2, 1, 1);
        t.addFigure(6, 6, 70);
        overlapIs(t, 2, 1, 6, 0, 1);
        overlapIs(t, 2, 2, 6, 0, 1);
    }

    private static void overlapWrong() {
        due.part("promise 11, wrong values");
        JointedShadows t = new JointedShadows();
        t.addFigure(0, 0, 50);
        t.addFigure(0, 0, 50);
        int[][] wrong = {
            {2, 0, 0, 0}, {0, 2, 0, 0}, {-1, 0, 0, 0}, {0, -1, 0, 0}, {LEAST, GREATEST, 0, 0},
            {0, 1, -1, 0}, {0, 1, 100, 0}, {0, 1, 0, -1}, {0, 1, 0, 2}, {0, 0, 0, GREATEST},
        };
        for (int[] w : wrong) {
            String call = "overlap(" + w[0] + ", " + w[1] + ", " + w[2] + ", " + w[3] + ")";
            due.is(call, t.overlap(w[0], w[1], w[2], w[3]), Long.MIN_VALUE);
        }
    }

    /** Two figures of one limb each, all in the screen's plane. */
    private static JointedShadows twoLimbs(int[] first, int[] second) {
        JointedShadows t = new JointedShadows();
        t.addFigure(first[0], first[1], 100);
        t.addLimb(0, -1, first[2], first[3]);
        t.addFigure(second[0], second[1], 100);
        t.addLimb(1, -1, second[2], second[3]);
        return t;
    }

    private static void pairMeets(String what, int[] first, int[] second, int want) {
        JointedShadows t = twoLimbs(first, second);
        due.is(what, t.crossings(0, 1, 0), want);
        due.is(what + ", the other way", t.crossings(1, 0, 0), want);
    }

    private static void crossings() {
        due.part("promise 12");
        JointedShadows t = new JointedShadows();
        t.addFigure(0, 0, 50);
        t.addFigure(0, 0, 20);
        due.is("figures without limbs", t.crossings(0, 1, 0), 0);
        t.addLimb(0, -1, 10, 0);
        due.is("a base alone has no segment", t.crossings(0, 1, 0), 0);
        for (int limb = 0; limb < 8; limb++) {
            t.addLimb(1, -1, 5, limb);
        }
        due.is("a limb and a star around its start", t.crossings(0, 1, 0), 8);
        t.addLimb(0, 0, 3, 2);
        due.is("a second limb meets the star once", t.crossings(1, 0, 0), 9);
        t.addShift(1, 1, 0, 0, 20);
        due.is("the star is smaller farther from the lamp", t.crossings(1, 0, 1), 8);
        t.addShift(2, 1, 0, 1, 0);
        due.is("the star is above the limb", t.crossings(0, 1, 2), 2);
        due.is("an earlier beat is as it was", t.crossings(0, 1, 0), 9);
    }

    private static void crossingsThatTouch() {
        due.part("promise 12, edges");
        pairMeets("a cross", new int[] {0, 0, 10, 0}, new int[] {5, -5, 10, 2}, 1);
        pairMeets("end on the middle", new int[] {0, 0, 10, 0}, new int[] {5, 0, 10, 2}, 1);
        pairMeets("one short of the middle", new int[] {0, 0, 10, 0}, new int[] {5, 1, 10, 2}, 0);
        pairMeets("end on end", new int[] {0, 0, 10, 0}, new int[] {10, 0, 10, 1}, 1);
        pairMeets("the same line, a common end", new int[] {0, 0, 10, 0}, new int[] {10, 0, 10, 0}, 1);
        pairMeets("the same line, one apart", new int[] {0, 0, 10, 0}, new int[] {11, 0, 10, 0}, 0);
        pairMeets("the same line, one in the other", new int[] {0, 0, 10, 1}, new int[] {8, 8, 3, 5}, 1);
        pairMeets("the same line, apart on a slope", new int[] {0, 0, 4, 3}, new int[] {-5, 5, 3, 3}, 0);
        pairMeets("parallels", new int[] {0, 0, 10, 1}, new int[] {1, 0, 10, 1}, 0);
        pairMeets("boxes meet, segments do not", new int[] {0, 0, 10, 1}, new int[] {3, 1, 6, 0}, 0);
        pairMeets("lines meet beyond both", new int[] {0, 0, 4, 1}, new int[] {10, 0, 4, 3}, 0);
        pairMeets("the same limb", new int[] {2, 3, 7, 6}, new int[] {2, 3, 7, 6}, 1);
        JointedShadows t = new JointedShadows();
        t.addFigure(0, 0, 30);
        t.addLimb(0, -1, 10, 0);
        t.addFigure(20, -1, 60);
        t.addLimb(1, -1, 5, 2);
        due.is("shadows touch: 20 * 100 / 60 = 10 * 100 / 30", t.crossings(0, 1, 0), 1);
        t.addShift(1, 1, 1, 0, 0);
        due.is("a hair beyond", t.crossings(0, 1, 1), 0);
        t.addShift(2, 1, 0, 0, 3);
        due.is("21 * 100 / 63 touches again", t.crossings(0, 1, 2), 1);
    }

    private static void crossingsWrong() {
        due.part("promises 12 and 13, wrong values");
        JointedShadows t = twoLimbs(new int[] {0, 0, 10, 0}, new int[] {0, 0, 10, 0});
        int[][] noFigure = {{2, 0, 0}, {0, 2, 0}, {2, 2, 0}, {-1, 0, 100}, {0, -1, 0}, {GREATEST, LEAST, -1}};
        for (int[] w : noFigure) {
            String rest = "(" + w[0] + ", " + w[1] + ", " + w[2] + ")";
            due.is("crossings" + rest, t.crossings(w[0], w[1], w[2]), -1);
            due.is("nextCrossing" + rest, t.nextCrossing(w[0], w[1], w[2]), -1);
        }
        int[][] bad = {{0, 0, 0}, {1, 1, 0}, {0, 1, -1}, {1, 0, 100}, {0, 1, LEAST}, {0, 1, GREATEST}};
        for (int[] w : bad) {
            String rest = "(" + w[0] + ", " + w[1] + ", " + w[2] + ")";
            due.is("crossings" + rest, t.crossings(w[0], w[1], w[2]), -3);
            due.is("nextCrossing" + rest, t.nextCrossing(w[0], w[1], w[2]), -3);
        }
    }

    private static void nextCrossing() {
        due.part("promise 13");
        JointedShadows t = twoLimbs(new int[] {0, 0, 10, 0}, new int[] {0, 20, 10, 0});
        due.is("none", t.nextCrossing(0, 1, 0), -5);
        t.addShift(40, 1, 0, -20, 0);
        t.addShift(41, 1, 0, 20, 0);
        t.addTurn(99, 1, 0, 2);
        t.addShift(99, 1, 0, -25, 0);
        due.is("from 0", t.nextCrossing(0, 1, 0), 40);
        due.is("from 40", t.nextCrossing(1, 0, 40), 40);
        due.is("from 41", t.nextCrossing(0, 1, 41), 99);
        due.is("from 99", t.nextCrossing(0, 1, 99), 99);
        t.addShift(60, 0, 0, -50, 0);
        due.is("the other one has gone", t.nextCrossing(0, 1, 41), -5);
        t.addShift(0, 1, 0, -20, 0);
        due.is("at once", t.nextCrossing(0, 1, 0), 0);
        due.is("it goes on without a move", t.nextCrossing(0, 1, 17), 17);
        due.is("its last beat", t.nextCrossing(0, 1, 39), 39);
        due.is("again at 41", t.nextCrossing(0, 1, 40), 41);
    }

    private static void within() {
        due.part("promise 14");
        JointedShadows t = new JointedShadows();
        due.is("no figures", t.within(0, 0, 0), 0);
        t.addFigure(0, 0, 100);
        t.addFigure(3, -4, 30);
        t.addFigure(0, 0, 50);
        t.addLimb(2, -1, 10, 3);
        due.is("within(0, 0, 0)", t.within(0, 0, 0), 1);
        due.is("(10, -40/3) at 10, 14", t.within(10, 14, 0), 3);
        due.is("(10, -40/3) at 9, 14", t.within(9, 14, 0), 1);
        due.is("(10, -40/3) at 10, 13", t.within(10, 13, 0), 1);
        due.is("touching the border", t.within(20, 20, 0), 7);
        due.is("too narrow", t.within(19, 20, 0), 3);
        due.is("too low", t.within(20, 19, 0), 3);
        t.addShift(1, 0, -50, 50, -99);
        due.is("far away", t.within(4999, 20000, 1), 6);
        due.is("far away, too low", t.within(20000, 4999, 1), 6);
        due.is("far away, touching", t.within(5000, 5000, 1), 7);
        int[][] wrong = {
            {-1, 0, 0}, {0, -1, 0}, {20001, 0, 0}, {0, 20001, 0}, {0, 0, -1}, {0, 0, 100}, {LEAST, GREATEST, 0},
        };
        for (int[] w : wrong) {
            due.is("within(" + w[0] + ", " + w[1] + ", " + w[2] + ")", t.within(w[0], w[1], w[2]), -3);
        }
        JointedShadows far = new JointedShadows();
        far.setDistance(200);
        far.addFigure(100, 100, 1);
        due.is("at the limit of 20000", far.within(20000, 20000, 0), 1);
        far.addShift(0, 0, 1, 0, 0);
        due.is("beyond it", far.within(20000, 20000, 0), 0);
    }

    private static void highest() {
        due.part("promise 15");
        JointedShadows t = new JointedShadows();
        due.is("no figures", t.highest(0), -5);
        due.is("no figures, wrong beat", t.highest(100), -3);
        t.addFigure(0, 90, 1);
        t.addFigure(0, 0, 30);
        due.is("all of height 0", t.highest(0), 0);
        t.addLimb(1, -1, 3, 6);
        due.is("a limb downwards", t.highest(0), 1);
        t.addFigure(0, 0, 60);
        t.addLimb(2, -1, 6, 1);
        due.is("equal heights, the first", t.highest(0), 1);
        t.addShift(5, 2, 0, 0, -1);
        due.is("a little higher", t.highest(5), 2);
        due.is("before it", t.highest(4), 1);
        t.addLimb(0, -1, 20, 0);
        due.is("width does not count", t.highest(4), 1);
        t.addTurn(9, 0, 0, -1);
        due.is("close to the lamp", t.highest(9), 0);
        due.is("beat -1", t.highest(-1), -3);
        due.is("beat 100", t.highest(100), -3);
    }

    private static void planeFor() {
        due.part("promise 16");
        JointedShadows t = new JointedShadows();
        due.is("no figure, wrong height", t.planeFor(0, 0, -1), -1);
        t.addFigure(0, 0, 50);
        due.is("height 0 of a point", t.planeFor(0, 0, 0), 100);
        due.is("height 1 of a point", t.planeFor(0, 0, 1), -5);
        t.addLimb(0, -1, 7, 2);
        due.is("height 0", t.planeFor(0, 0, 0), 100);
        due.is("height 7 on the screen", t.planeFor(0, 0, 7), 100);
        due.is("less than that", t.planeFor(0, 0, 3), 100);
        due.is("height 8", t.planeFor(0, 0, 8), 87);
        due.is("height 70", t.planeFor(0, 0, 70), 10);
        due.is("height 71", t.planeFor(0, 0, 71), 9);
        due.is("height 700", t.planeFor(0, 0, 700), 1);
        due.is("height 701", t.planeFor(0, 0, 701), -5);
        due.is("height 100000", t.planeFor(0, 0, 100000), -5);
        t.addTurn(6, 0, 0, 2);
        due.is("it lies down", t.planeFor(0, 6, 1), -5);
        due.is("before it", t.planeFor(0, 5, 700), 1);
        t.setDistance(20);
        due.is("the present D", t.planeFor(0, 0, 7), 20);
        due.is("height 140", t.planeFor(0, 0, 140), 1);
        due.is("figure 1", t.planeFor(1, 100, -1), -1);
        due.is("figure -1", t.planeFor(-1, 0, 0), -1);
        int[][] wrong = {{-1, 0}, {100, 0}, {0, -1}, {0, 100001}, {0, LEAST}, {GREATEST, GREATEST}};
        for (int[] w : wrong) {
            due.is("planeFor(0, " + w[0] + ", " + w[1] + ")", t.planeFor(0, w[0], w[1]), -3);
        }
    }
}

/** Promises 6 to 9: addTurn, addShift, removeMoves, position. */
public final class ScriptPromisesTest {
    private static final int LEAST = Integer.MIN_VALUE;
    private static final int GREATEST = Integer.MAX_VALUE;
    private static final Due due = new Due();

    public static void main(String[] args) {
        addTurn();
        addTurnWrong();
        addShift();
        addShiftWrong();
        planeIsKeptInRange();
        sixtyMoves();
        removeMoves();
        position();
        due.finish();
    }

    /** Figure 0 at (1, 2) in plane 50: limb 0 from the base, limbs 1 and 2 from limb 0. */
    private static JointedShadows theatre() {
        JointedShadows t = new JointedShadows();
        t.addFigure(1, 2, 50);
        t.addLimb(0, -1, 10, 0);
        t.addLimb(0, 0, 5, 2);
        t.addLimb(0, 0, 3, 7);
        return t;
    }

    private static void addTurn() {
        due.part("promise 6");
        JointedShadows t = theatre();
        due.is("addTurn(99, 0, 1, 7)", t.addTurn(99, 0, 1, 7), 0);
        due.is("addTurn(0, 0, 0, -7)", t.addTurn(0, 0, 0, -7), 1);
        due.is("addTurn(50, 0, 0, 1)", t.addTurn(50, 0, 0, 1), 2);
        due.is("limb 0 at 0", t.position(0, 1, 0, 2), 1);
        due.is("limb 1 goes with it", t.position(0, 2, 0, 2), 3);
        due.is("limb 2 goes with it", t.position(0, 3, 0, 2), 0);
        due.is("limb 0 at 49", t.position(0, 1, 49, 2), 1);
        due.is("limb 0 at 50", t.position(0, 1, 50, 2), 2);
        due.is("limb 1 at 98", t.position(0, 2, 98, 2), 4);
        due.is("limb 1 at 99", t.position(0, 2, 99, 2), 3);
        due.is("limb 0 at 99 does not follow its child", t.position(0, 1, 99, 2), 2);
        due.is("x of limb 1's end at 99", t.position(0, 2, 99, 0), 1 - 5);
        due.is("y of limb 1's end at 99", t.position(0, 2, 99, 1), 2 + 10 + 5);
        due.is("the base stays, x", t.position(0, 0, 99, 0), 1);
        due.is("the base stays, y", t.position(0, 0, 99, 1), 2);
        t.addLimb(0, 1, 2, 1);
        due.is("a limb that is added later moves too", t.position(0, 4, 99, 2), 4);
    }

    private static void addTurnWrong() {
        due.part("promise 6, wrong values");
        JointedShadows t = theatre();
        due.is("figure 1", t.addTurn(100, 1, 9, 0), -1);
        due.is("figure -1", t.addTurn(0, -1, 0, 1), -1);
        due.is("greatest figure", t.addTurn(0, GREATEST, 0, 1), -1);
        due.is("limb 3", t.addTurn(100, 0, 3, 0), -2);
        due.is("limb -1", t.addTurn(0, 0, -1, 1), -2);
        due.is("least limb", t.addTurn(0, 0, LEAST, 1), -2);
        due.is("beat -1", t.addTurn(-1, 0, 0, 1), -3);
        due.is("beat 100", t.addTurn(100, 0, 0, 1), -3);
        due.is("eighths 0", t.addTurn(0, 0, 0, 0), -3);
        due.is("eighths 8", t.addTurn(0, 0, 0, 8), -3);
        due.is("eighths -8", t.addTurn(0, 0, 0, -8), -3);
        due.is("least eighths", t.addTurn(0, 0, 0, LEAST), -3);
        due.is("count(1)", t.count(1), 0);
        due.is("the first good one", t.addTurn(0, 0, 2, 1), 0);
    }

    private static void addShift() {
        due.part("promise 7");
        JointedShadows t = theatre();
        t.addFigure(0, 0, 7);
        due.is("addShift(10, 0, 50, -50, 20)", t.addShift(10, 0, 50, -50, 20), 0);
        due.is("addShift(5, 0, -50, 50, -30)", t.addShift(5, 0, -50, 50, -30), 1);
        due.is("addShift(0, 0, 0, 0, 0)", t.addShift(0, 0, 0, 0, 0), 2);
        due.is("addShift(99, 1, 1, 1, 1)", t.addShift(99, 1, 1, 1, 1), 3);
        due.is("x at 4", t.position(0, 0, 4, 0), 1);
        due.is("x at 5", t.position(0, 0, 5, 0), -49);
        due.is("y at 5", t.position(0, 0, 5, 1), 52);
        due.is("plane at 5", t.position(0, 0, 5, 3), 20);
        due.is("x at 10", t.position(0, 0, 10, 0), 1);
        due.is("y at 10", t.position(0, 0, 10, 1), 2);
        due.is("plane at 10", t.position(0, 0, 10, 3), 40);
        due.is("the limbs go along, x", t.position(0, 1, 5, 0), -39);
        due.is("the limbs go along, y", t.position(0, 1, 5, 1), 52);
        due.is("the other figure at 98", t.position(1, 0, 98, 3), 7);
        due.is("the other figure at 99", t.position(1, 0, 99, 3), 8);
    }

    private static void addShiftWrong() {
        due.part("promise 7, wrong values");
        JointedShadows t = theatre();
        due.is("figure 1", t.addShift(100, 1, 51, 0, 0), -1);
        due.is("figure -1", t.addShift(0, -1, 0, 0, 0), -1);
        due.is("beat -1", t.addShift(-1, 0, 0, 0, 0), -3);
        due.is("beat 100", t.addShift(100, 0, 0, 0, 0), -3);
        due.is("dx 51", t.addShift(0, 0, 51, 0, 0), -3);
        due.is("dx -51", t.addShift(0, 0, -51, 0, 0), -3);
        due.is("dy 51", t.addShift(0, 0, 0, 51, 0), -3);
        due.is("dy -51", t.addShift(0, 0, 0, -51, 0), -3);
        due.is("dplane 101", t.addShift(0, 0, 0, 0, 101), -3);
        due.is("dplane -101", t.addShift(0, 0, 0, 0, -101), -3);
        due.is("least dx", t.addShift(0, 0, LEAST, 0, 0), -3);
        due.is("greatest dplane", t.addShift(0, 0, 0, 0, GREATEST), -3);
        due.is("count(1)", t.count(1), 0);
        due.is("the first good one", t.addShift(0, 0, -50, 50, -100), 0);
        due.is("dplane 100", t.addShift(0, 0, 50, -50, 100), 1);
    }

    private static void planeIsKeptInRange() {
        due.part("promise 7, the plane's limits");
        JointedShadows t = theatre();
        t.addShift(2, 0, 0, 0, 60);
        t.addShift(1, 0, 0, 0, -60);
        due.is("below 1 it is 1", t.position(0, 0, 1, 3), 1);
        due.is("beats go before numbers", t.position(0, 0, 2, 3), 61);
        t.addShift(2, 0, 0, 0, 45);
        due.is("above D it is D", t.position(0, 0, 2, 3), 100);
        t.addShift(2, 0, 0, 0, -10);
        due.is("in one beat, the order of the list", t.position(0, 0, 2, 3), 90);
        t.setDistance(30);
        due.is("D as it is now, at 0", t.position(0, 0, 0, 3), 30);
        due.is("D as it is now, at 1", t.position(0, 0, 1, 3), 1);
        due.is("D as it is now, at 2", t.position(0, 0, 2, 3), 20);
        JointedShadows edge = new JointedShadows();
        edge.addFigure(0, 0, 50);
        edge.addShift(0, 0, 0, 0, 50);
        due.is("exactly D", edge.position(0, 0, 0, 3), 100);
        edge.addShift(1, 0, 0, 0, -99);
        due.is("exactly 1", edge.position(0, 0, 1, 3), 1);
        edge.addShift(1, 0, 0, 0, -1);
        due.is("0 becomes 1", edge.position(0, 0, 1, 3), 1);
    }

    private static void sixtyMoves() {
        due.part("promises 6 and 7, the full script");
        JointedShadows t = theatre();
        for (int move = 0; move < 60; move++) {
            int number = move % 2 == 0 ? t.addShift(move, 0, 50, 0, 0) : t.addTurn(move, 0, 0, 1);
            due.is("move " + move, number, move);
        }
        due.is("a shift more", t.addShift(0, 0, 0, 0, 0), -4);
        due.is("a turn more", t.addTurn(0, 0, 0, 1), -4);
        due.is("a wrong shift", t.addShift(100, 0, 0, 0, 0), -3);
        due.is("a wrong turn", t.addTurn(100, 0, 0, 1), -3);
        due.is("a turn of no limb", t.addTurn(100, 0, 3, 1), -2);
        due.is("a shift of no figure", t.addShift(100, 1, 0, 0, 0), -1);
        due.is("x at 99", t.position(0, 0, 99, 0), 1 + 30 * 50);
        due.is("direction at 99", t.position(0, 1, 99, 2), 30 % 8);
        due.is("removeMoves(1)", t.removeMoves(1), 59);
        due.is("again room for one", t.addShift(0, 0, 0, 0, 0), 59);
    }

    private static void removeMoves() {
        due.part("promise 8");
        JointedShadows t = theatre();
        t.addShift(9, 0, 1, 0, 0);
        t.addShift(3, 0, 10, 0, 0);
        t.addShift(5, 0, 20, 0, 0);
        t.addTurn(1, 0, 0, 1);
        due.is("removeMoves(5)", t.removeMoves(5), -3);
        due.is("removeMoves(-1)", t.removeMoves(-1), -3);
        due.is("least", t.removeMoves(LEAST), -3);
        due.is("greatest", t.removeMoves(GREATEST), -3);
        due.is("removeMoves(0)", t.removeMoves(0), 4);
        due.is("all of them at 9", t.position(0, 0, 9, 0), 32);
        due.is("removeMoves(2)", t.removeMoves(2), 2);
        due.is("count(1)", t.count(1), 2);
        due.is("the highest numbers are gone, not the last beats", t.position(0, 0, 9, 0), 12);
        due.is("the turn is gone", t.position(0, 1, 9, 2), 0);
        due.is("the next number", t.addShift(0, 0, 0, 7, 0), 2);
        due.is("its beat", t.position(0, 0, 0, 1), 9);
        due.is("removeMoves(3)", t.removeMoves(3), 0);
        due.is("removeMoves(1) of none", t.removeMoves(1), -3);
        due.is("the first state", t.position(0, 0, 99, 0), 1);
    }

    private static void position() {
        due.part("promise 9");
        JointedShadows t = theatre();
        due.is("base x", t.position(0, 0, 0, 0), 1);
        due.is("base y", t.position(0, 0, 0, 1), 2);
        due.is("base direction", t.position(0, 0, 0, 2), 0);
        due.is("base plane", t.position(0, 0, 0, 3), 50);
        due.is("end of limb 2, x", t.position(0, 3, 99, 0), 1 + 10 + 3);
        due.is("end of limb 2, y", t.position(0, 3, 99, 1), 2 - 3);
        due.is("limb 2, direction", t.position(0, 3, 99, 2), 7);
        due.is("limb 2, plane", t.position(0, 3, 99, 3), 50);
        int[][] wrong = {
            {1, 0, 0, 0}, {-1, 0, 0, 0}, {LEAST, 0, 0, 0}, {GREATEST, 0, 0, 0},
            {0, 4, 0, 0}, {0, -1, 0, 0}, {0, LEAST, 0, 0}, {0, GREATEST, 0, 0},
            {0, 0, 100, 0}, {0, 0, -1, 0}, {0, 0, 0, 4}, {0, 0, 0, -1}, {0, 0, 0, GREATEST},
        };
        for (int[] w : wrong) {
            String call = "position(" + w[0] + ", " + w[1] + ", " + w[2] + ", " + w[3] + ")";
            due.is(call, t.position(w[0], w[1], w[2], w[3]), Long.MIN_VALUE);
        }
    }
}

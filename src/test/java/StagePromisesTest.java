/** Promises 1 to 5: a new object, setDistance, addFigure, addLimb, count. */
public final class StagePromisesTest {
    private static final int LEAST = Integer.MIN_VALUE;
    private static final int GREATEST = Integer.MAX_VALUE;
    private static final Due due = new Due();

    public static void main(String[] args) {
        newObject();
        setDistance();
        distanceChangesWhatIsSeen();
        addFigure();
        addFigureWrong();
        addLimb();
        addLimbWrong();
        count();
        due.finish();
    }

    private static void newObject() {
        due.part("promise 1");
        JointedShadows t = new JointedShadows();
        for (int what = 0; what <= 3; what++) {
            due.is("count(" + what + ")", t.count(what), 0);
        }
        due.is("position(0, 0, 0, 0)", t.position(0, 0, 0, 0), Long.MIN_VALUE);
        due.is("highest(0)", t.highest(0), -5);
        due.is("within(20000, 20000, 99)", t.within(20000, 20000, 99), 0);
        due.is("busiestBeat()", t.busiestBeat(), -5);
        due.is("bestCost()", t.bestCost(), 0);
        due.is("bestScene(0)", t.bestScene(0), -5);
        due.is("clearScenes()", t.clearScenes(), 0);
        due.is("removeMoves(0)", t.removeMoves(0), 0);
        due.is("setDistance(100), the first D", t.setDistance(100), 100);
        JointedShadows other = new JointedShadows();
        t.addFigure(1, 2, 3);
        due.is("count(0) of another object", other.count(0), 0);
    }

    private static void setDistance() {
        due.part("promise 2");
        JointedShadows t = new JointedShadows();
        due.is("setDistance(10)", t.setDistance(10), 100);
        due.is("setDistance(200)", t.setDistance(200), 10);
        int[] wrong = {9, 201, 0, -10, LEAST, GREATEST};
        for (int distance : wrong) {
            due.is("setDistance(" + distance + ")", t.setDistance(distance), -3);
        }
        due.is("setDistance(55) after errors", t.setDistance(55), 200);
        due.is("setDistance(55) again", t.setDistance(55), 55);
    }

    private static void distanceChangesWhatIsSeen() {
        due.part("promise 2, figures");
        JointedShadows t = new JointedShadows();
        t.addFigure(3, 7, 80);
        t.addLimb(0, -1, 10, 2);
        due.is("height over 80 at D 100", t.box(0, 0, 5, 0), 25);
        due.is("its denominator", t.box(0, 0, 5, 1), 2);
        t.setDistance(40);
        due.is("a plane beyond D is D", t.position(0, 0, 0, 3), 40);
        due.is("height in the screen's plane", t.box(0, 0, 5, 0), 10);
        t.addShift(4, 0, 0, 0, -15);
        due.is("shift from D", t.position(0, 0, 4, 3), 25);
        t.setDistance(100);
        due.is("the initial plane is not lost", t.position(0, 0, 0, 3), 80);
        due.is("shift from the initial plane", t.position(0, 0, 4, 3), 65);
    }

    private static void addFigure() {
        due.part("promise 3");
        JointedShadows t = new JointedShadows();
        due.is("addFigure(-100, 100, 1)", t.addFigure(-100, 100, 1), 0);
        due.is("addFigure(100, -100, 100)", t.addFigure(100, -100, 100), 1);
        due.is("addFigure(0, 0, 101)", t.addFigure(0, 0, 101), -3);
        t.setDistance(200);
        due.is("addFigure(12, -34, 200)", t.addFigure(12, -34, 200), 2);
        t.setDistance(20);
        due.is("addFigure(0, 0, 21)", t.addFigure(0, 0, 21), -3);
        due.is("addFigure(0, 0, 20)", t.addFigure(0, 0, 20), 3);
        due.is("addFigure(0, 0, 20)", t.addFigure(0, 0, 20), 4);
        due.is("addFigure(5, 6, 7)", t.addFigure(5, 6, 7), 5);
        due.is("the seventh", t.addFigure(0, 0, 20), -4);
        due.is("a wrong seventh", t.addFigure(0, 0, 21), -3);
        due.is("count(0)", t.count(0), 6);
        due.is("figure 6 of six", t.position(6, 0, 0, 0), Long.MIN_VALUE);
        due.is("a limb for figure 6 of six", t.addLimb(6, -1, 1, 0), -1);
        due.is("x of figure 2", t.position(2, 0, 0, 0), 12);
        due.is("y of figure 2", t.position(2, 0, 0, 1), -34);
        due.is("direction of a base", t.position(2, 0, 0, 2), 0);
        due.is("plane of figure 5", t.position(5, 0, 0, 3), 7);
        due.is("point 1 of a figure without limbs", t.position(5, 1, 0, 0), Long.MIN_VALUE);
    }

    private static void addFigureWrong() {
        due.part("promise 3, wrong values");
        JointedShadows t = new JointedShadows();
        int[] far = {-101, 101, LEAST, GREATEST};
        for (int value : far) {
            due.is("x " + value, t.addFigure(value, 0, 50), -3);
            due.is("y " + value, t.addFigure(0, value, 50), -3);
            due.is("plane " + value, t.addFigure(0, 0, value), -3);
        }
        due.is("plane 0", t.addFigure(0, 0, 0), -3);
        due.is("count(0)", t.count(0), 0);
        due.is("the first good one", t.addFigure(0, 0, 1), 0);
    }

    private static void addLimb() {
        due.part("promise 4");
        JointedShadows t = new JointedShadows();
        t.addFigure(0, 0, 50);
        t.addFigure(10, 20, 50);
        int[] stepX = {1, 1, 0, -1, -1, -1, 0, 1};
        int[] stepY = {0, 1, 1, 1, 0, -1, -1, -1};
        for (int direction = 0; direction < 8; direction++) {
            due.is("limb " + direction, t.addLimb(1, -1, direction + 13, direction), direction);
            due.is("its x", t.position(1, direction + 1, 0, 0), 10 + stepX[direction] * (direction + 13));
            due.is("its y", t.position(1, direction + 1, 0, 1), 20 + stepY[direction] * (direction + 13));
            due.is("its direction", t.position(1, direction + 1, 0, 2), direction);
        }
        due.is("the ninth", t.addLimb(1, -1, 1, 0), -4);
        due.is("a ninth with a wrong length", t.addLimb(1, 7, 0, 0), -3);
        due.is("a ninth with a wrong parent", t.addLimb(1, 8, 0, 0), -2);
        for (int limb = 0; limb < 8; limb++) {
            due.is("chain " + limb, t.addLimb(0, limb - 1, 20, limb == 0 ? 3 : 0), limb);
        }
        due.is("end of the chain, x", t.position(0, 8, 0, 0), -160);
        due.is("end of the chain, y", t.position(0, 8, 0, 1), 160);
        due.is("count(3)", t.count(3), 16);
        JointedShadows bent = new JointedShadows();
        bent.addFigure(0, 0, 50);
        bent.addLimb(0, -1, 1, 7);
        bent.addLimb(0, 0, 1, 7);
        bent.addLimb(0, 1, 1, 5);
        due.is("7 + 7 modulo 8", bent.position(0, 2, 0, 2), 6);
        due.is("6 + 5 modulo 8", bent.position(0, 3, 0, 2), 3);
    }

    private static void addLimbWrong() {
        due.part("promise 4, wrong values");
        JointedShadows t = new JointedShadows();
        due.is("without figures", t.addLimb(0, -1, 5, 0), -1);
        t.addFigure(0, 0, 50);
        due.is("figure 1", t.addLimb(1, 9, 0, 9), -1);
        due.is("figure -1", t.addLimb(-1, -1, 5, 0), -1);
        due.is("least figure", t.addLimb(LEAST, -1, 5, 0), -1);
        due.is("greatest figure", t.addLimb(GREATEST, -1, 5, 0), -1);
        due.is("parent is the limb itself", t.addLimb(0, 0, 5, 0), -2);
        due.is("parent -2", t.addLimb(0, -2, 0, 8), -2);
        due.is("greatest parent", t.addLimb(0, GREATEST, 5, 0), -2);
        due.is("least parent", t.addLimb(0, LEAST, 5, 0), -2);
        due.is("length 0", t.addLimb(0, -1, 0, 0), -3);
        due.is("length 21", t.addLimb(0, -1, 21, 0), -3);
        due.is("direction -1", t.addLimb(0, -1, 5, -1), -3);
        due.is("direction 8", t.addLimb(0, -1, 5, 8), -3);
        due.is("count(3)", t.count(3), 0);
        due.is("length 1", t.addLimb(0, -1, 1, 0), 0);
        due.is("length 20, direction 7", t.addLimb(0, 0, 20, 7), 1);
    }

    private static void count() {
        due.part("promise 5");
        JointedShadows t = new JointedShadows();
        t.addFigure(0, 0, 50);
        t.addFigure(0, 0, 50);
        t.addLimb(0, -1, 1, 0);
        t.addLimb(1, -1, 1, 0);
        t.addLimb(1, 0, 1, 0);
        t.addShift(0, 0, 0, 0, 0);
        t.addTurn(0, 1, 1, 1);
        t.addTurn(0, 1, 1, 1);
        t.addTurn(0, 1, 0, 1);
        for (int scene = 0; scene < 5; scene++) {
            t.addScene(scene);
        }
        due.is("count(0)", t.count(0), 2);
        due.is("count(1)", t.count(1), 4);
        due.is("count(2)", t.count(2), 5);
        due.is("count(3)", t.count(3), 3);
        int[] wrong = {-1, 4, LEAST, GREATEST};
        for (int what : wrong) {
            due.is("count(" + what + ")", t.count(what), -3);
        }
    }
}

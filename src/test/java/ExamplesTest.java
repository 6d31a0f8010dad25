/** The three examples of the document's section "Description". */
public final class ExamplesTest {
    private static final Due due = new Due();

    public static void main(String[] args) {
        figureWithTwoLimbs();
        crossingsAndOverlaps();
        orderOfScenes();
        due.finish();
    }

    private static void figureWithTwoLimbs() {
        due.part("example 1");
        JointedShadows t = new JointedShadows();
        due.is("addFigure(0, 0, 50)", t.addFigure(0, 0, 50), 0);
        due.is("addLimb(0, -1, 10, 2)", t.addLimb(0, -1, 10, 2), 0);
        due.is("addLimb(0, 0, 6, 6)", t.addLimb(0, 0, 6, 6), 1);
        due.is("position(0, 2, 0, 0)", t.position(0, 2, 0, 0), 6);
        due.is("position(0, 2, 0, 1)", t.position(0, 2, 0, 1), 10);
        due.is("box(0, 0, 5, 0)", t.box(0, 0, 5, 0), 20);
        due.is("box(0, 0, 4, 1)", t.box(0, 0, 4, 1), 1);
        due.is("addTurn(3, 0, 0, 2)", t.addTurn(3, 0, 0, 2), 0);
        due.is("position(0, 1, 3, 0)", t.position(0, 1, 3, 0), -10);
        due.is("position(0, 2, 3, 2)", t.position(0, 2, 3, 2), 2);
        due.is("addShift(3, 0, 5, 0, -25)", t.addShift(3, 0, 5, 0, -25), 1);
        due.is("box(0, 3, 1, 0)", t.box(0, 3, 1, 0), 20);
        due.is("hands(3)", t.hands(3), 2);
        due.is("busiestBeat()", t.busiestBeat(), 3);
        due.is("planeFor(0, 0, 30)", t.planeFor(0, 0, 30), 33);
        due.is("highest(2)", t.highest(2), 0);
    }

    private static void crossingsAndOverlaps() {
        due.part("example 2");
        JointedShadows t = new JointedShadows();
        due.is("setDistance(60)", t.setDistance(60), 100);
        due.is("addFigure(-5, 0, 20)", t.addFigure(-5, 0, 20), 0);
        due.is("addFigure(10, 10, 30)", t.addFigure(10, 10, 30), 1);
        due.is("addLimb(0, -1, 20, 1)", t.addLimb(0, -1, 20, 1), 0);
        due.is("addLimb(1, -1, 15, 4)", t.addLimb(1, -1, 15, 4), 0);
        due.is("crossings(0, 1, 0)", t.crossings(0, 1, 0), 1);
        due.is("overlap(0, 1, 0, 0)", t.overlap(0, 1, 0, 0), 0);
        due.is("overlap(0, 1, 0, 1)", t.overlap(0, 1, 0, 1), 1);
        due.is("addShift(7, 1, 0, 40, 0)", t.addShift(7, 1, 0, 40, 0), 0);
        due.is("crossings(0, 1, 7)", t.crossings(0, 1, 7), 0);
        due.is("nextCrossing(0, 1, 7)", t.nextCrossing(0, 1, 7), -5);
        due.is("nextCrossing(1, 0, 2)", t.nextCrossing(1, 0, 2), 2);
        due.is("within(45, 60, 0)", t.within(45, 60, 0), 3);
        due.is("crossings(0, 0, 0)", t.crossings(0, 0, 0), -3);
        due.is("box(0, 100, 0, 0)", t.box(0, 100, 0, 0), -9223372036854775808L);
        due.is("addLimb(0, 1, 3, 0)", t.addLimb(0, 1, 3, 0), -2);
    }

    private static void orderOfScenes() {
        due.part("example 3");
        JointedShadows t = new JointedShadows();
        due.is("addScene(3)", t.addScene(3), 0);
        due.is("addScene(12)", t.addScene(12), 1);
        due.is("addScene(7)", t.addScene(7), 2);
        due.is("addScene(0)", t.addScene(0), 3);
        due.is("bestCost()", t.bestCost(), 6);
        due.is("bestScene(0)", t.bestScene(0), 0);
        due.is("bestScene(1)", t.bestScene(1), 2);
        due.is("bestScene(2)", t.bestScene(2), 1);
        due.is("bestScene(3)", t.bestScene(3), 3);
        due.is("bestScene(4)", t.bestScene(4), -5);
        due.is("clearScenes()", t.clearScenes(), 4);
        due.is("bestCost()", t.bestCost(), 0);
        due.is("addScene(64)", t.addScene(64), -3);
        due.is("hands(0)", t.hands(0), 0);
        due.is("busiestBeat()", t.busiestBeat(), -5);
        due.is("removeMoves(1)", t.removeMoves(1), -3);
    }
}

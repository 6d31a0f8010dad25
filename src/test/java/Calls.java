/** Makes a call that is given by its name and its arguments. */
final class Calls {
    private Calls() {
    }

    static long answer(JointedShadows t, String name, int... a) {
        switch (name + "/" + a.length) {
            case "setDistance/1": return t.setDistance(a[0]);
            case "addFigure/3": return t.addFigure(a[0], a[1], a[2]);
            case "addLimb/4": return t.addLimb(a[0], a[1], a[2], a[3]);
            case "count/1": return t.count(a[0]);
            case "addTurn/4": return t.addTurn(a[0], a[1], a[2], a[3]);
            case "addShift/5": return t.addShift(a[0], a[1], a[2], a[3], a[4]);
            case "removeMoves/1": return t.removeMoves(a[0]);
            case "position/4": return t.position(a[0], a[1], a[2], a[3]);
            case "box/4": return t.box(a[0], a[1], a[2], a[3]);
            case "overlap/4": return t.overlap(a[0], a[1], a[2], a[3]);
            case "crossings/3": return t.crossings(a[0], a[1], a[2]);
            case "nextCrossing/3": return t.nextCrossing(a[0], a[1], a[2]);
            case "within/3": return t.within(a[0], a[1], a[2]);
            case "highest/1": return t.highest(a[0]);
            case "planeFor/3": return t.planeFor(a[0], a[1], a[2]);
            case "hands/1": return t.hands(a[0]);
            case "busiestBeat/0": return t.busiestBeat();
            case "activeRods/2": return t.activeRods(a[0], a[1]);
            case "addScene/1": return t.addScene(a[0]);
            case "clearScenes/0": return t.clearScenes();
            case "bestScene/1": return t.bestScene(a[0]);
            case "bestCost/0": return t.bestCost();
            default: throw new IllegalArgumentException("no method " + name + " with " + a.length + " arguments");
        }
    }

    static long answer(PlainTheatre t, String name, int... a) {
        switch (name + "/" + a.length) {
            case "setDistance/1": return t.setDistance(a[0]);
            case "addFigure/3": return t.addFigure(a[0], a[1], a[2]);
            case "addLimb/4": return t.addLimb(a[0], a[1], a[2], a[3]);
            case "count/1": return t.count(a[0]);
            case "addTurn/4": return t.addTurn(a[0], a[1], a[2], a[3]);
            case "addShift/5": return t.addShift(a[0], a[1], a[2], a[3], a[4]);
            case "removeMoves/1": return t.removeMoves(a[0]);
            case "position/4": return t.position(a[0], a[1], a[2], a[3]);
            case "box/4": return t.box(a[0], a[1], a[2], a[3]);
            case "overlap/4": return t.overlap(a[0], a[1], a[2], a[3]);
            case "crossings/3": return t.crossings(a[0], a[1], a[2]);
            case "nextCrossing/3": return t.nextCrossing(a[0], a[1], a[2]);
            case "within/3": return t.within(a[0], a[1], a[2]);
            case "highest/1": return t.highest(a[0]);
            case "planeFor/3": return t.planeFor(a[0], a[1], a[2]);
            case "hands/1": return t.hands(a[0]);
            case "busiestBeat/0": return t.busiestBeat();
            case "activeRods/2": return t.activeRods(a[0], a[1]);
            case "addScene/1": return t.addScene(a[0]);
            case "clearScenes/0": return t.clearScenes();
            case "bestScene/1": return t.bestScene(a[0]);
            case "bestCost/0": return t.bestCost();
            default: throw new IllegalArgumentException("no method " + name + " with " + a.length + " arguments");
        }
    }
}

/** Promises 20 to 23: addScene, clearScenes, bestScene, bestCost. */
public final class ScenePromisesTest {
    private static final Due due = new Due();

    public static void main(String[] args) {
        addScene();
        clearScenes();
        bestScene();
        bestSceneOfEquals();
        bestCost();
        due.finish();
    }

    private static JointedShadows scenes(int... casts) {
        JointedShadows t = new JointedShadows();
        for (int cast : casts) {
            t.addScene(cast);
        }
        return t;
    }

    private static void orderIs(JointedShadows t, int cost, int... order) {
        due.is("bestCost()", t.bestCost(), cost);
        for (int place = 0; place < order.length; place++) {
            due.is("bestScene(" + place + ")", t.bestScene(place), order[place]);
        }
        due.is("bestScene(" + order.length + ")", t.bestScene(order.length), -5);
    }

    private static void addScene() {
        due.part("promise 20");
        JointedShadows t = new JointedShadows();
        int[] wrong = {-1, 64, Integer.MIN_VALUE, Integer.MAX_VALUE};
        for (int figures : wrong) {
            due.is("addScene(" + figures + ")", t.addScene(figures), -3);
        }
        due.is("count(2)", t.count(2), 0);
        for (int scene = 0; scene < 8; scene++) {
            due.is("addScene " + scene, t.addScene(scene * 9), scene);
        }
        due.is("the ninth", t.addScene(0), -4);
        due.is("a wrong ninth", t.addScene(64), -3);
        due.is("count(2) of eight", t.count(2), 8);
    }

    private static void clearScenes() {
        due.part("promise 21");
        JointedShadows t = scenes(1, 2, 4);
        due.is("clearScenes()", t.clearScenes(), 3);
        due.is("clearScenes() again", t.clearScenes(), 0);
        due.is("count(2)", t.count(2), 0);
        orderIs(t, 0);
        due.is("addScene(63)", t.addScene(63), 0);
        orderIs(t, 0, 0);
        due.is("addScene(0)", t.addScene(0), 1);
        orderIs(t, 6, 0, 1);
        due.is("clearScenes() of two", t.clearScenes(), 2);
        t.addFigure(1, 1, 1);
        t.clearScenes();
        due.is("figures stay", t.count(0), 1);
    }

    private static void bestScene() {
        due.part("promise 22");
        JointedShadows t = scenes(0, 63, 1, 62, 3, 60, 7, 56);
        orderIs(t, 9, 0, 2, 4, 6, 1, 3, 5, 7);
        due.is("place -1", t.bestScene(-1), -3);
        due.is("least place", t.bestScene(Integer.MIN_VALUE), -3);
        due.is("greatest place", t.bestScene(Integer.MAX_VALUE), -5);
        orderIs(scenes(0, 7, 1), 3, 0, 2, 1);
        orderIs(scenes(7, 0, 1), 3, 0, 2, 1);
        due.is("none, place -1", scenes().bestScene(-1), -3);
        due.is("none, place 0", scenes().bestScene(0), -5);
    }

    private static void bestSceneOfEquals() {
        due.part("promise 22, the first of several");
        orderIs(scenes(5, 5, 5, 5, 5, 5, 5, 5), 0, 0, 1, 2, 3, 4, 5, 6, 7);
        orderIs(scenes(0, 1, 2), 3, 0, 1, 2);
        orderIs(scenes(0, 3, 1, 2), 3, 0, 2, 1, 3);
        orderIs(scenes(1, 2, 1, 2), 2, 0, 2, 1, 3);
        orderIs(scenes(0, 48, 3), 6, 0, 1, 2);
    }

    private static void bestCost() {
        due.part("promise 23");
        due.is("no scenes", scenes().bestCost(), 0);
        due.is("one scene", scenes(63).bestCost(), 0);
        due.is("the same twice", scenes(21, 21).bestCost(), 0);
        due.is("all against none", scenes(63, 0).bestCost(), 6);
        due.is("scene 0 comes first, though its neighbours are on both sides", scenes(3, 1, 7).bestCost(), 3);
        due.is("to and fro", scenes(0, 63, 0, 63).bestCost(), 6);
        due.is("all single figures", scenes(1, 2, 4, 8, 16, 32).bestCost(), 10);
    }
}

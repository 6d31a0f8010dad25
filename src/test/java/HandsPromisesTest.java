/** Promises 17 to 19: hands, busiestBeat, activeRods. */
public final class HandsPromisesTest {
    private static final Due due = new Due();

    public static void main(String[] args) {
        hands();
        handsOfChains();
        handsOfForks();
        handsOfSeveralFigures();
        busiestBeat();
        activeRods();
        due.finish();
    }

    /** A figure whose limbs have the given parents. */
    private static JointedShadows figure(int... parents) {
        JointedShadows t = new JointedShadows();
        t.addFigure(0, 0, 50);
        for (int parent : parents) {
            t.addLimb(0, parent, 1, 0);
        }
        return t;
    }

    private static void turn(JointedShadows t, int beat, int... limbs) {
        for (int limb : limbs) {
            t.addTurn(beat, 0, limb, 1);
        }
    }

    private static void hands() {
        due.part("promise 17");
        JointedShadows t = figure(-1, 0);
        due.is("nothing moves", t.hands(0), 0);
        turn(t, 4, 0);
        due.is("one rod", t.hands(4), 1);
        due.is("the beat before", t.hands(3), 0);
        due.is("the beat after", t.hands(5), 0);
        turn(t, 4, 0);
        due.is("twice the same rod", t.hands(4), 1);
        turn(t, 4, 1);
        due.is("parent and child", t.hands(4), 1);
        t.addShift(4, 0, 0, 0, 0);
        due.is("the base rod needs a hand of its own", t.hands(4), 2);
        t.addShift(4, 0, 1, 1, 1);
        due.is("two shifts, one rod", t.hands(4), 2);
        turn(t, 5, 0);
        t.addShift(5, 0, 1, 0, 0);
        due.is("a limb at the base is not paired with it", t.hands(5), 2);
        due.is("beat -1", t.hands(-1), -3);
        due.is("beat 100", t.hands(100), -3);
        due.is("greatest", t.hands(Integer.MAX_VALUE), -3);
        due.is("beat 99", t.hands(99), 0);
    }

    private static void handsOfChains() {
        due.part("promise 17, chains");
        JointedShadows t = figure(-1, 0, 1, 2, 3, 4, 5, 6);
        turn(t, 0, 0, 1, 2);
        due.is("three in a chain", t.hands(0), 2);
        turn(t, 1, 0, 1, 2, 3);
        due.is("four in a chain", t.hands(1), 2);
        turn(t, 2, 0, 2, 4);
        due.is("grandchildren are not paired", t.hands(2), 3);
        turn(t, 3, 7, 6, 5, 4, 3, 2, 1, 0);
        due.is("eight in a chain", t.hands(3), 4);
        turn(t, 4, 0, 1, 2, 5, 6);
        due.is("a gap in the chain", t.hands(4), 3);
    }

    private static void handsOfForks() {
        due.part("promise 17, forks");
        JointedShadows star = figure(-1, 0, 0, 0);
        turn(star, 0, 0, 1, 2, 3);
        due.is("a parent goes with one child only", star.hands(0), 3);
        turn(star, 1, 1, 2, 3);
        due.is("siblings are not paired", star.hands(1), 3);
        JointedShadows roots = figure(-1, -1);
        turn(roots, 0, 0, 1);
        due.is("limbs at the base are not paired", roots.hands(0), 2);
        JointedShadows fork = figure(-1, 0, 1, 0);
        turn(fork, 0, 0, 1, 2, 3);
        due.is("the leaves first", fork.hands(0), 2);
        JointedShadows other = figure(-1, 0, 0, 2);
        turn(other, 0, 0, 1, 2, 3);
        due.is("the leaves first, the other way", other.hands(0), 2);
        JointedShadows tree = figure(-1, 0, 0, 1, 1, 2, 2, -1);
        turn(tree, 0, 0, 1, 2, 3, 4, 5, 6, 7);
        due.is("a tree", tree.hands(0), 6);
    }

    private static void handsOfSeveralFigures() {
        due.part("promise 17, several figures");
        JointedShadows t = figure(-1, 0);
        t.addFigure(0, 0, 50);
        t.addLimb(1, -1, 1, 0);
        t.addLimb(1, 0, 1, 0);
        t.addTurn(0, 0, 0, 1);
        t.addTurn(0, 1, 1, 1);
        due.is("rods of different figures are not paired", t.hands(0), 2);
        t.addTurn(0, 1, 0, 1);
        due.is("but within the figure", t.hands(0), 2);
        t.addShift(0, 0, 1, 1, 1);
        t.addShift(0, 1, 1, 1, 1);
        due.is("two bases", t.hands(0), 4);
    }

    private static void busiestBeat() {
        due.part("promise 18");
        JointedShadows t = figure(-1, 0, 0);
        due.is("an empty script", t.busiestBeat(), -5);
        t.addShift(99, 0, 0, 0, 0);
        due.is("the last beat", t.busiestBeat(), 99);
        turn(t, 50, 1);
        due.is("the first of equals", t.busiestBeat(), 50);
        turn(t, 60, 0, 1);
        due.is("hands count, not rods", t.busiestBeat(), 50);
        turn(t, 70, 0, 1, 2);
        due.is("the most hands", t.busiestBeat(), 70);
        turn(t, 0, 0, 1, 2);
        due.is("beat 0", t.busiestBeat(), 0);
        t.removeMoves(3);
        due.is("without beat 0", t.busiestBeat(), 70);
        t.removeMoves(t.count(1));
        due.is("empty again", t.busiestBeat(), -5);
    }

    private static void activeRods() {
        due.part("promise 19");
        JointedShadows t = figure(-1, 0, 1, 2, 3, 4, 5, 6);
        t.addFigure(0, 0, 50);
        due.is("none", t.activeRods(0, 0), 0);
        turn(t, 0, 0, 0, 1, 1);
        due.is("two limbs, twice each", t.activeRods(0, 0), 2);
        t.addShift(0, 0, 0, 0, 0);
        t.addShift(0, 0, 5, 0, 0);
        due.is("and the base", t.activeRods(0, 0), 3);
        due.is("another figure", t.activeRods(1, 0), 0);
        due.is("another beat", t.activeRods(0, 1), 0);
        t.addShift(99, 0, 0, 0, 0);
        turn(t, 99, 0, 1, 2, 3, 4, 5, 6, 7);
        due.is("all nine", t.activeRods(0, 99), 9);
        due.is("figure 2", t.activeRods(2, 100), -1);
        due.is("figure -1", t.activeRods(-1, 0), -1);
        due.is("beat -1", t.activeRods(0, -1), -3);
        due.is("beat 100", t.activeRods(1, 100), -3);
    }
}

/** The sentences of the promises 20 to 23: addScene, clearScenes, bestScene, bestCost. */
final class SceneSentences {
    private SceneSentences() {
    }

    static void tell(Sentences s) {
        addScene(s);
        clearScenes(s);
        bestScene(s);
        bestCost(s);
    }

    private static void addScene(Sentences s) {
        s.in("Promise 20");
        s.says("Adds a scene.", """
                addScene(5) = 0; count(2) = 1; bestScene(0) = 0; bestScene(1) = NONE
                addScene(6) = 1; count(2) = 2; bestScene(1) = 1; bestCost() = 2
                """);
        s.says("`figures`: the set of its figures, 0 to 63", """
                addScene(0) = 0; addScene(-1) = BAD_VALUE
                addScene(63) = 1; addScene(64) = BAD_VALUE
                addScene(LEAST) = BAD_VALUE; addScene(GREATEST) = BAD_VALUE
                count(2) = 2; bestCost() = 6
                """);
        s.says("Returns the number of the scene; BAD_VALUE; FULL if there are 8 scenes.", """
                7 x addScene(7) = #
                addScene(64) = BAD_VALUE
                addScene(56) = 7
                addScene(56) = FULL; addScene(64) = BAD_VALUE; addScene(-1) = BAD_VALUE; addScene(0) = FULL
                count(2) = 8; bestCost() = 6; bestScene(7) = 7
                """);
    }

    private static void clearScenes(Sentences s) {
        s.in("Promise 21");
        s.says("Removes all scenes.", """
                addScene(1) = 0; addScene(62) = 1; addScene(3) = 2
                bestCost() = 6 -- 0, 2, 1
                clearScenes() = 3
                count(2) = 0; bestScene(0) = NONE; bestCost() = 0
                addScene(7) = 0; bestCost() = 0; bestScene(0) = 0; bestScene(1) = NONE
                addScene(6) = 1; bestCost() = 1

                addFigure(0, 0, 50) = 0; addShift(0, 0, 1, 0, 0) = 0; addScene(1) = 0
                clearScenes() = 1
                count(0) = 1; count(1) = 1; position(0, 0, 0, 0) = 1 -- but nothing else
                """);
        s.says("Returns how many there were.", """
                clearScenes() = 0; clearScenes() = 0
                addScene(1) = 0; clearScenes() = 1; clearScenes() = 0
                8 x addScene(#) = #
                addScene(0) = FULL
                clearScenes() = 8; clearScenes() = 0
                8 x addScene(#) = #
                clearScenes() = 8
                """);
    }

    private static void bestScene(Sentences s) {
        s.in("Promise 22");
        s.says("Returns the scene at a place of the best order.", """
                addScene(0) = 0; addScene(63) = 1; addScene(1) = 2; addScene(62) = 3; addScene(3) = 4; addScene(60) = 5
                addScene(7) = 6; addScene(56) = 7
                bestScene(0) = 0; bestScene(1) = 2; bestScene(2) = 4; bestScene(3) = 6; bestScene(4) = 1
                bestScene(5) = 3; bestScene(6) = 5; bestScene(7) = 7; bestScene(8) = NONE
                bestCost() = 9
                """);
        s.says("`place`: the place, from 0", """
                addScene(4) = 0; addScene(5) = 1
                bestScene(0) = 0; bestScene(-1) = BAD_VALUE; bestScene(1) = 1
                bestScene(LEAST) = BAD_VALUE
                """);
        s.says("""
                Returns the number of the scene; BAD_VALUE if place is negative; NONE if there are not so many
                scenes.""", """
                bestScene(0) = NONE; bestScene(-1) = BAD_VALUE; bestScene(GREATEST) = NONE
                addScene(4) = 0
                bestScene(0) = 0; bestScene(1) = NONE
                7 x addScene(4) = #+1
                8 x bestScene(#) = #
                bestScene(8) = NONE; bestScene(9) = NONE; bestScene(GREATEST) = NONE
                bestScene(-1) = BAD_VALUE; bestScene(LEAST) = BAD_VALUE
                clearScenes() = 8
                bestScene(0) = NONE; bestScene(7) = NONE
                """);
    }

    private static void bestCost(Sentences s) {
        s.in("Promise 23");
        s.says("Returns the cost of the best order, 0 if there are no scenes.", """
                bestCost() = 0
                addScene(63) = 0; bestCost() = 0 -- a scene alone needs no change
                addScene(0) = 1; bestCost() = 6
                addScene(7) = 2; bestCost() = 6 -- 0, 2, 1
                clearScenes() = 3; bestCost() = 0

                addScene(0) = 0; addScene(63) = 1; addScene(0) = 2; addScene(63) = 3; addScene(0) = 4; addScene(63) = 5
                addScene(0) = 6; addScene(63) = 7
                bestCost() = 6

                addScene(1) = 0; addScene(2) = 1; addScene(4) = 2; addScene(8) = 3; addScene(16) = 4; addScene(32) = 5
                addScene(63) = 6; addScene(0) = 7
                bestCost() = 15 -- 2 for each next figure, 0 between two of them for nothing, and 5 for all at the end
                """);
    }
}

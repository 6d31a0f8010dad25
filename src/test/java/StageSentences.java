/** The sentences of the promises 1 to 5: a new object, setDistance, addFigure, addLimb, count. */
final class StageSentences {
    private StageSentences() {
    }

    static void tell(Sentences s) {
        newObject(s);
        setDistance(s);
        addFigure(s);
        addLimb(s);
        addLimbAnswers(s);
        count(s);
    }

    private static void newObject(Sentences s) {
        s.in("Promise 1");
        s.says("Creates a theatre without figures, moves and scenes; D is 100.", """
                setDistance(100) = 100

                addFigure(0, 0, 101) = BAD_VALUE; addFigure(0, 0, 100) = 0
                box(0, 0, 0) = 0/1; planeFor(0, 0, 0) = 100

                count(0) = 0; count(1) = 0; count(2) = 0; count(3) = 0
                highest(0) = NONE; within(20000, 20000, 0) = 0
                busiestBeat() = NONE; hands(0) = 0; hands(99) = 0; removeMoves(0) = 0; removeMoves(1) = BAD_VALUE
                bestScene(0) = NONE; bestCost() = 0; clearScenes() = 0
                addLimb(0, -1, 1, 0) = NO_SUCH_FIGURE; addShift(0, 0, 0, 0, 0) = NO_SUCH_FIGURE
                """);
    }

    private static void setDistance(Sentences s) {
        s.in("Promise 2");
        s.says("Sets the distance between lamp and screen.", """
                addFigure(1, 0, 10) = 0; box(0, 0, 0) = 10/1
                setDistance(10) = 100; box(0, 0, 0) = 1/1
                addFigure(0, 0, 11) = BAD_VALUE; addFigure(0, 0, 10) = 1
                setDistance(200) = 10; box(0, 0, 0) = 20/1
                addFigure(0, 0, 200) = 2; addFigure(0, 0, 201) = BAD_VALUE
                """);
        s.says("`distance`: 10 to 200", """
                setDistance(10) = 100; setDistance(9) = BAD_VALUE; setDistance(10) = 10
                setDistance(200) = 10; setDistance(201) = BAD_VALUE; setDistance(200) = 200
                setDistance(0) = BAD_VALUE; setDistance(-10) = BAD_VALUE
                setDistance(LEAST) = BAD_VALUE; setDistance(GREATEST) = BAD_VALUE
                setDistance(11) = 200; setDistance(199) = 11; setDistance(100) = 199
                """);
        s.says("Returns the previous distance; BAD_VALUE.", """
                setDistance(50) = 100; setDistance(50) = 50; setDistance(60) = 50
                setDistance(5) = BAD_VALUE; setDistance(70) = 60
                """);
    }

    private static void addFigure(Sentences s) {
        s.in("Promise 3");
        s.says("Adds a figure without limbs.", """
                addFigure(0, 0, 50) = 0; count(0) = 1; count(3) = 0
                addLimb(0, 0, 1, 0) = NO_SUCH_LIMB; addTurn(0, 0, 0, 1) = NO_SUCH_LIMB
                position(0, 1, 0, 0) = NO_VALUE
                addLimb(0, -1, 1, 0) = 0
                addFigure(0, 0, 50) = 1; count(3) = 1; position(1, 1, 0, 0) = NO_VALUE
                """);
        s.says("`x`: x of its base, -100 to 100", """
                addFigure(-100, 0, 50) = 0; addFigure(-101, 0, 50) = BAD_VALUE
                addFigure(100, 0, 50) = 1; addFigure(101, 0, 50) = BAD_VALUE
                addFigure(LEAST, 0, 50) = BAD_VALUE; addFigure(GREATEST, 0, 50) = BAD_VALUE
                position(0, 0, 0, 0) = -100; position(1, 0, 0, 0) = 100; position(1, 0, 0, 1) = 0
                """);
        s.says("`y`: y of its base, -100 to 100", """
                addFigure(0, -100, 50) = 0; addFigure(0, -101, 50) = BAD_VALUE
                addFigure(0, 100, 50) = 1; addFigure(0, 101, 50) = BAD_VALUE
                addFigure(0, LEAST, 50) = BAD_VALUE; addFigure(0, GREATEST, 50) = BAD_VALUE
                position(0, 0, 0, 1) = -100; position(1, 0, 0, 1) = 100; position(1, 0, 0, 0) = 0
                """);
        s.says("`plane`: its plane, 1 to the present D", """
                addFigure(0, 0, 1) = 0; addFigure(0, 0, 0) = BAD_VALUE; addFigure(0, 0, -1) = BAD_VALUE
                addFigure(0, 0, 100) = 1; addFigure(0, 0, 101) = BAD_VALUE
                addFigure(0, 0, LEAST) = BAD_VALUE; addFigure(0, 0, GREATEST) = BAD_VALUE
                setDistance(40) = 100
                addFigure(0, 0, 41) = BAD_VALUE; addFigure(0, 0, 40) = 2
                setDistance(150) = 40
                addFigure(0, 0, 151) = BAD_VALUE; addFigure(0, 0, 150) = 3
                position(0, 0, 0, 3) = 1; position(1, 0, 0, 3) = 100
                position(2, 0, 0, 3) = 40; position(3, 0, 0, 3) = 150
                """);
        s.says("Returns the number of the figure; BAD_VALUE; FULL if there are 6 figures.", """
                5 x addFigure(0, 0, 50) = #
                addFigure(0, 0, 101) = BAD_VALUE
                addFigure(0, 0, 50) = 5
                addFigure(0, 0, 50) = FULL; addFigure(0, 0, 101) = BAD_VALUE; addFigure(101, 0, 50) = BAD_VALUE
                addFigure(0, -101, 50) = BAD_VALUE; addFigure(0, 0, 50) = FULL
                count(0) = 6
                """);
    }

    private static void addLimb(Sentences s) {
        s.in("Promise 4");
        s.says("Adds a limb to a figure.", """
                addFigure(0, 0, 50) = 0; addFigure(0, 0, 50) = 1
                addLimb(1, -1, 5, 1) = 0
                count(3) = 1
                position(1, 1, 0, 0) = 5; position(1, 1, 0, 1) = 5; position(1, 1, 0, 2) = 1
                position(0, 1, 0, 0) = NO_VALUE
                """);
        s.says("`figure`: number of a figure", """
                addLimb(0, -1, 1, 0) = NO_SUCH_FIGURE
                addFigure(0, 0, 50) = 0; addFigure(0, 0, 50) = 1
                addLimb(0, -1, 1, 0) = 0; addLimb(-1, -1, 1, 0) = NO_SUCH_FIGURE
                addLimb(1, -1, 1, 0) = 0; addLimb(2, -1, 1, 0) = NO_SUCH_FIGURE
                addLimb(LEAST, -1, 1, 0) = NO_SUCH_FIGURE; addLimb(GREATEST, -1, 1, 0) = NO_SUCH_FIGURE

                6 x addFigure(0, 0, 50) = #
                addLimb(5, -1, 1, 0) = 0; addLimb(6, -1, 1, 0) = NO_SUCH_FIGURE
                """);
        s.says("`parent`: an earlier limb of this figure, or -1 for the base", """
                addFigure(0, 0, 50) = 0; addFigure(0, 0, 50) = 1
                addLimb(1, -1, 1, 0) = 0; addLimb(1, 0, 1, 0) = 1
                addLimb(0, 0, 1, 0) = NO_SUCH_LIMB; addLimb(0, -2, 1, 0) = NO_SUCH_LIMB
                addLimb(0, -1, 1, 0) = 0
                addLimb(0, 1, 1, 0) = NO_SUCH_LIMB; addLimb(0, 0, 1, 0) = 1
                addLimb(0, LEAST, 1, 0) = NO_SUCH_LIMB; addLimb(0, GREATEST, 1, 0) = NO_SUCH_LIMB
                addLimb(0, -1, 3, 2) = 2
                position(0, 2, 0, 0) = 2; position(0, 3, 0, 0) = 0; position(0, 3, 0, 1) = 3

                addFigure(0, 0, 50) = 0 -- up to the last parent that there can be
                8 x addLimb(0, #-1, 1, 0) = #
                position(0, 8, 0, 0) = 8
                """);
        s.says("`length`: 1 to 20", """
                addFigure(0, 0, 50) = 0
                addLimb(0, -1, 1, 0) = 0; addLimb(0, -1, 0, 0) = BAD_VALUE; addLimb(0, -1, -1, 0) = BAD_VALUE
                addLimb(0, -1, 20, 0) = 1; addLimb(0, -1, 21, 0) = BAD_VALUE
                addLimb(0, -1, LEAST, 0) = BAD_VALUE; addLimb(0, -1, GREATEST, 0) = BAD_VALUE
                position(0, 1, 0, 0) = 1; position(0, 2, 0, 0) = 20
                """);
        s.says("`direction`: 0 to 7", """
                addFigure(0, 0, 50) = 0
                addLimb(0, -1, 1, 0) = 0; addLimb(0, -1, 1, -1) = BAD_VALUE
                addLimb(0, -1, 1, 7) = 1; addLimb(0, -1, 1, 8) = BAD_VALUE
                addLimb(0, -1, 1, LEAST) = BAD_VALUE; addLimb(0, -1, 1, GREATEST) = BAD_VALUE
                position(0, 1, 0, 2) = 0; position(0, 2, 0, 2) = 7
                """);
    }

    private static void addLimbAnswers(Sentences s) {
        s.says("""
                Returns the number of the limb; NO_SUCH_FIGURE; NO_SUCH_LIMB if there is no such parent; BAD_VALUE;
                FULL if the figure has 8 limbs.""", """
                addFigure(0, 0, 50) = 0; addFigure(0, 0, 50) = 1
                7 x addLimb(0, -1, 1, 0) = #
                addLimb(0, 7, 1, 0) = NO_SUCH_LIMB
                addLimb(0, 6, 1, 0) = 7
                addLimb(0, 7, 1, 0) = FULL; addLimb(0, -1, 1, 0) = FULL
                addLimb(0, 7, 0, 0) = BAD_VALUE; addLimb(0, 7, 1, 8) = BAD_VALUE -- before FULL
                addLimb(0, 8, 1, 0) = NO_SUCH_LIMB; addLimb(0, 8, 0, 8) = NO_SUCH_LIMB -- before both
                addLimb(2, -1, 1, 0) = NO_SUCH_FIGURE; addLimb(2, 8, 0, 8) = NO_SUCH_FIGURE -- before all
                addLimb(1, 0, 0, 0) = NO_SUCH_LIMB; addLimb(1, -1, 0, 0) = BAD_VALUE
                addLimb(1, -1, 1, 0) = 0
                count(3) = 9
                """);
    }

    private static void count(Sentences s) {
        s.in("Promise 5");
        s.says("`what`: 0 for figures, 1 for moves, 2 for scenes, 3 for limbs of all figures", """
                addFigure(0, 0, 50) = 0; addFigure(0, 0, 50) = 1
                addLimb(0, -1, 1, 0) = 0; addLimb(1, -1, 1, 0) = 0; addLimb(1, -1, 1, 0) = 1
                4 x addShift(0, 0, 0, 0, 0) = #
                5 x addScene(0) = #
                count(0) = 2; count(1) = 4; count(2) = 5; count(3) = 3
                count(-1) = BAD_VALUE; count(4) = BAD_VALUE; count(LEAST) = BAD_VALUE; count(GREATEST) = BAD_VALUE
                """);
        s.says("Returns how many there are; BAD_VALUE.", """
                count(0) = 0; count(1) = 0; count(2) = 0; count(3) = 0
                6 x addFigure(0, 0, 50) = #
                8 x addLimb(0, -1, 1, 0) = #
                8 x addLimb(1, -1, 1, 0) = #
                8 x addLimb(2, -1, 1, 0) = #
                8 x addLimb(3, -1, 1, 0) = #
                8 x addLimb(4, -1, 1, 0) = #
                8 x addLimb(5, -1, 1, 0) = #
                60 x addTurn(0, 5, 7, 1) = #
                8 x addScene(0) = #
                count(0) = 6; count(1) = 60; count(2) = 8; count(3) = 48
                addFigure(0, 0, 50) = FULL; addLimb(0, -1, 1, 0) = FULL; addTurn(0, 5, 7, 1) = FULL
                addScene(0) = FULL
                count(0) = 6; count(1) = 60; count(2) = 8; count(3) = 48
                removeMoves(60) = 0; clearScenes() = 8
                count(0) = 6; count(1) = 0; count(2) = 0; count(3) = 48; count(4) = BAD_VALUE
                """);
    }
}

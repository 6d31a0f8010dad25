/** The sentences of the promises 6 to 9: addTurn, addShift, removeMoves, position. */
final class ScriptSentences {
    private ScriptSentences() {
    }

    static void tell(Sentences s) {
        addTurn(s);
        addTurnAnswers(s);
        addShift(s);
        addShiftAnswers(s);
        removeMoves(s);
        position(s);
        positionAnswers(s);
    }

    private static void addTurn(Sentences s) {
        s.in("Promise 6");
        s.says("Adds a turn to the script.", """
                addFigure(0, 0, 50) = 0; addLimb(0, -1, 5, 0) = 0
                addTurn(3, 0, 0, 2) = 0
                count(1) = 1; activeRods(0, 3) = 1
                position(0, 1, 2, 0) = 5; position(0, 1, 2, 1) = 0
                position(0, 1, 3, 0) = 0; position(0, 1, 3, 1) = 5; position(0, 1, 99, 2) = 2
                """);
        s.says("`beat`: 0 to 99", """
                addFigure(0, 0, 50) = 0; addLimb(0, -1, 5, 0) = 0
                addTurn(0, 0, 0, 1) = 0; addTurn(-1, 0, 0, 1) = BAD_VALUE
                addTurn(99, 0, 0, 1) = 1; addTurn(100, 0, 0, 1) = BAD_VALUE
                addTurn(LEAST, 0, 0, 1) = BAD_VALUE; addTurn(GREATEST, 0, 0, 1) = BAD_VALUE
                position(0, 1, 0, 2) = 1; position(0, 1, 98, 2) = 1; position(0, 1, 99, 2) = 2
                hands(0) = 1; hands(99) = 1; count(1) = 2
                """);
        s.says("`figure`: number of a figure", """
                addTurn(0, 0, 0, 1) = NO_SUCH_FIGURE
                addFigure(0, 0, 50) = 0; addFigure(0, 0, 50) = 1
                addLimb(0, -1, 5, 0) = 0; addLimb(1, -1, 5, 0) = 0
                addTurn(0, 0, 0, 1) = 0; addTurn(0, -1, 0, 1) = NO_SUCH_FIGURE
                addTurn(0, 1, 0, 2) = 1; addTurn(0, 2, 0, 1) = NO_SUCH_FIGURE
                addTurn(0, LEAST, 0, 1) = NO_SUCH_FIGURE; addTurn(0, GREATEST, 0, 1) = NO_SUCH_FIGURE
                position(0, 1, 0, 2) = 1; position(1, 1, 0, 2) = 2
                """);
        s.says("`limb`: a limb of this figure", """
                addFigure(0, 0, 50) = 0; addFigure(0, 0, 50) = 1
                addTurn(0, 0, 0, 1) = NO_SUCH_LIMB
                addLimb(0, -1, 5, 0) = 0; addLimb(0, -1, 5, 0) = 1; addLimb(1, -1, 5, 0) = 0
                addTurn(0, 0, 0, 1) = 0; addTurn(0, 0, -1, 1) = NO_SUCH_LIMB -- the base cannot be turned
                addTurn(0, 0, 1, 2) = 1; addTurn(0, 0, 2, 1) = NO_SUCH_LIMB
                addTurn(0, 1, 1, 1) = NO_SUCH_LIMB -- a limb of another figure
                addTurn(0, 0, LEAST, 1) = NO_SUCH_LIMB; addTurn(0, 0, GREATEST, 1) = NO_SUCH_LIMB
                position(0, 1, 0, 2) = 1; position(0, 2, 0, 2) = 2; position(1, 1, 0, 2) = 0

                addFigure(0, 0, 50) = 0
                8 x addLimb(0, -1, 5, 0) = #
                addTurn(0, 0, 7, 1) = 0; addTurn(0, 0, 8, 1) = NO_SUCH_LIMB
                """);
        s.says("`eighths`: what is added to its direction, -7 to 7, not 0", """
                addFigure(0, 0, 50) = 0; addLimb(0, -1, 5, 3) = 0
                addTurn(1, 0, 0, -7) = 0; addTurn(1, 0, 0, -8) = BAD_VALUE
                addTurn(2, 0, 0, 7) = 1; addTurn(2, 0, 0, 8) = BAD_VALUE
                addTurn(3, 0, 0, -1) = 2; addTurn(3, 0, 0, 0) = BAD_VALUE; addTurn(4, 0, 0, 1) = 3
                addTurn(1, 0, 0, LEAST) = BAD_VALUE; addTurn(1, 0, 0, GREATEST) = BAD_VALUE
                position(0, 1, 0, 2) = 3; position(0, 1, 1, 2) = 4; position(0, 1, 2, 2) = 3
                position(0, 1, 3, 2) = 2; position(0, 1, 4, 2) = 3
                """);
    }

    private static void addTurnAnswers(Sentences s) {
        s.says("""
                Returns the number of the move; NO_SUCH_FIGURE; NO_SUCH_LIMB; BAD_VALUE; FULL if there are 60
                moves.""", """
                addFigure(0, 0, 50) = 0; addLimb(0, -1, 5, 0) = 0
                addTurn(100, 1, 1, 0) = NO_SUCH_FIGURE; addTurn(100, 0, 1, 0) = NO_SUCH_LIMB
                addTurn(100, 0, 0, 1) = BAD_VALUE; addTurn(0, 0, 0, 0) = BAD_VALUE
                59 x addTurn(#, 0, 0, 1) = #
                addTurn(5, 0, 0, 1) = 59
                addTurn(5, 0, 0, 1) = FULL
                addTurn(100, 0, 0, 1) = BAD_VALUE; addTurn(5, 0, 0, 0) = BAD_VALUE; addTurn(5, 0, 0, 8) = BAD_VALUE
                addTurn(5, 0, 1, 1) = NO_SUCH_LIMB; addTurn(5, 1, 0, 1) = NO_SUCH_FIGURE
                count(1) = 60; position(0, 1, 99, 2) = 4
                removeMoves(1) = 59; addTurn(5, 0, 0, 1) = 59; addTurn(5, 0, 0, 1) = FULL
                """);
    }

    private static void addShift(Sentences s) {
        s.in("Promise 7");
        s.says("Adds a shift to the script.", """
                addFigure(1, 2, 3) = 0
                addShift(5, 0, 10, 20, 30) = 0
                count(1) = 1; activeRods(0, 5) = 1
                position(0, 0, 4, 0) = 1; position(0, 0, 4, 1) = 2; position(0, 0, 4, 3) = 3
                position(0, 0, 5, 0) = 11; position(0, 0, 5, 1) = 22; position(0, 0, 5, 3) = 33
                """);
        s.says("`beat`: 0 to 99", """
                addFigure(0, 0, 50) = 0
                addShift(0, 0, 1, 0, 0) = 0; addShift(-1, 0, 1, 0, 0) = BAD_VALUE
                addShift(99, 0, 1, 0, 0) = 1; addShift(100, 0, 1, 0, 0) = BAD_VALUE
                addShift(LEAST, 0, 1, 0, 0) = BAD_VALUE; addShift(GREATEST, 0, 1, 0, 0) = BAD_VALUE
                position(0, 0, 0, 0) = 1; position(0, 0, 98, 0) = 1; position(0, 0, 99, 0) = 2
                hands(0) = 1; hands(99) = 1; count(1) = 2
                """);
        s.says("`figure`: number of a figure", """
                addShift(0, 0, 1, 0, 0) = NO_SUCH_FIGURE
                addFigure(0, 0, 50) = 0; addFigure(0, 0, 50) = 1
                addShift(0, 0, 1, 0, 0) = 0; addShift(0, -1, 1, 0, 0) = NO_SUCH_FIGURE
                addShift(0, 1, 2, 0, 0) = 1; addShift(0, 2, 1, 0, 0) = NO_SUCH_FIGURE
                addShift(0, LEAST, 1, 0, 0) = NO_SUCH_FIGURE; addShift(0, GREATEST, 1, 0, 0) = NO_SUCH_FIGURE
                position(0, 0, 0, 0) = 1; position(1, 0, 0, 0) = 2

                6 x addFigure(0, 0, 50) = #
                addShift(0, 5, 1, 0, 0) = 0; addShift(0, 6, 1, 0, 0) = NO_SUCH_FIGURE
                """);
        s.says("`dx`: what is added to x, -50 to 50", """
                addFigure(0, 0, 50) = 0
                addShift(1, 0, -50, 0, 0) = 0; addShift(1, 0, -51, 0, 0) = BAD_VALUE
                addShift(2, 0, 50, 0, 0) = 1; addShift(2, 0, 51, 0, 0) = BAD_VALUE
                addShift(1, 0, LEAST, 0, 0) = BAD_VALUE; addShift(1, 0, GREATEST, 0, 0) = BAD_VALUE
                addShift(3, 0, 0, 0, 0) = 2
                position(0, 0, 1, 0) = -50; position(0, 0, 2, 0) = 0; position(0, 0, 1, 1) = 0

                addFigure(100, 0, 50) = 0 -- x may leave the range in which a figure is added
                addShift(0, 0, 50, 0, 0) = 0; position(0, 0, 0, 0) = 150
                """);
        s.says("`dy`: what is added to y, -50 to 50", """
                addFigure(0, 0, 50) = 0
                addShift(1, 0, 0, -50, 0) = 0; addShift(1, 0, 0, -51, 0) = BAD_VALUE
                addShift(2, 0, 0, 50, 0) = 1; addShift(2, 0, 0, 51, 0) = BAD_VALUE
                addShift(1, 0, 0, LEAST, 0) = BAD_VALUE; addShift(1, 0, 0, GREATEST, 0) = BAD_VALUE
                position(0, 0, 1, 1) = -50; position(0, 0, 2, 1) = 0; position(0, 0, 1, 0) = 0

                addFigure(0, -100, 50) = 0 -- y may leave the range in which a figure is added
                addShift(0, 0, 0, -50, 0) = 0; position(0, 0, 0, 1) = -150
                """);
        s.says("`dplane`: what is added to the plane, -100 to 100", """
                setDistance(200) = 100; addFigure(0, 0, 150) = 0
                addShift(1, 0, 0, 0, -100) = 0; addShift(1, 0, 0, 0, -101) = BAD_VALUE
                addShift(2, 0, 0, 0, 100) = 1; addShift(2, 0, 0, 0, 101) = BAD_VALUE
                addShift(1, 0, 0, 0, LEAST) = BAD_VALUE; addShift(1, 0, 0, 0, GREATEST) = BAD_VALUE
                position(0, 0, 0, 3) = 150; position(0, 0, 1, 3) = 50; position(0, 0, 2, 3) = 150

                setDistance(10) = 100; addFigure(0, 0, 5) = 0 -- the range of dplane does not depend on D
                addShift(1, 0, 0, 0, 100) = 0; position(0, 0, 1, 3) = 10
                addShift(2, 0, 0, 0, -100) = 1; position(0, 0, 2, 3) = 1
                """);
    }

    private static void addShiftAnswers(Sentences s) {
        s.says("Returns the number of the move; NO_SUCH_FIGURE; BAD_VALUE; FULL if there are 60 moves.", """
                addFigure(0, 0, 50) = 0
                addShift(100, 1, 51, 51, 101) = NO_SUCH_FIGURE; addShift(100, 0, 0, 0, 0) = BAD_VALUE
                59 x addShift(#, 0, 1, 0, 0) = #
                addShift(5, 0, 1, 0, 0) = 59
                addShift(5, 0, 1, 0, 0) = FULL
                addShift(100, 0, 1, 0, 0) = BAD_VALUE; addShift(5, 0, 51, 0, 0) = BAD_VALUE
                addShift(5, 0, 1, 51, 0) = BAD_VALUE; addShift(5, 0, 1, 0, 101) = BAD_VALUE
                addShift(5, 1, 1, 0, 0) = NO_SUCH_FIGURE
                count(1) = 60; position(0, 0, 99, 0) = 60
                removeMoves(1) = 59; addShift(5, 0, 1, 0, 0) = 59; addShift(5, 0, 1, 0, 0) = FULL
                """);
    }

    private static void removeMoves(Sentences s) {
        s.in("Promise 8");
        s.says("Removes the moves with the highest numbers.", """
                addFigure(0, 0, 50) = 0; addLimb(0, -1, 5, 0) = 0
                addShift(9, 0, 1, 0, 0) = 0; addShift(3, 0, 10, 0, 0) = 1; addShift(5, 0, 20, 0, 0) = 2
                addTurn(1, 0, 0, 1) = 3
                removeMoves(1) = 3 -- the turn: the last number, but the first beat
                position(0, 1, 99, 2) = 0; position(0, 0, 99, 0) = 31; hands(1) = 0
                removeMoves(1) = 2
                position(0, 0, 99, 0) = 11; position(0, 0, 5, 0) = 10; hands(5) = 0; hands(3) = 1
                removeMoves(1) = 1
                position(0, 0, 99, 0) = 1; position(0, 0, 8, 0) = 0; hands(3) = 0; hands(9) = 1
                addTurn(9, 0, 0, 1) = 1 -- the numbers go on behind what is left

                addFigure(0, 0, 50) = 0 -- several of one beat: the order of the list is kept
                addShift(7, 0, 0, 0, 100) = 0; addShift(7, 0, 0, 0, -30) = 1; addShift(7, 0, 0, 0, -30) = 2
                removeMoves(1) = 2; position(0, 0, 7, 3) = 70
                addShift(7, 0, 0, 0, 100) = 2; position(0, 0, 7, 3) = 100
                addShift(7, 0, 0, 0, -1) = 3; position(0, 0, 7, 3) = 99
                removeMoves(2) = 2; position(0, 0, 7, 3) = 70
                """);
        s.says("`n`: how many, 0 to the number of moves", """
                removeMoves(0) = 0; removeMoves(1) = BAD_VALUE; removeMoves(-1) = BAD_VALUE

                addFigure(0, 0, 50) = 0
                3 x addShift(0, 0, 1, 0, 0) = #
                removeMoves(0) = 3; removeMoves(-1) = BAD_VALUE; removeMoves(4) = BAD_VALUE
                removeMoves(LEAST) = BAD_VALUE; removeMoves(GREATEST) = BAD_VALUE
                count(1) = 3; position(0, 0, 0, 0) = 3
                removeMoves(3) = 0; removeMoves(1) = BAD_VALUE
                count(1) = 0; position(0, 0, 0, 0) = 0

                addFigure(0, 0, 50) = 0
                60 x addShift(#, 0, 1, 0, 0) = #
                removeMoves(61) = BAD_VALUE; removeMoves(60) = 0
                position(0, 0, 99, 0) = 0; busiestBeat() = NONE
                60 x addShift(#, 0, 1, 0, 0) = #
                """);
        s.says("Returns the number of moves that are left; BAD_VALUE.", """
                addFigure(0, 0, 50) = 0
                5 x addShift(0, 0, 1, 0, 0) = #
                removeMoves(2) = 3; removeMoves(0) = 3; removeMoves(4) = BAD_VALUE; removeMoves(1) = 2
                removeMoves(2) = 0; removeMoves(0) = 0
                """);
    }

    private static void position(Sentences s) {
        s.in("Promise 9");
        s.says("Returns a property of a point of a figure at a beat.", """
                addFigure(1, 2, 50) = 0; addFigure(-7, -8, 60) = 1; addLimb(1, -1, 5, 2) = 0
                addTurn(4, 1, 0, 1) = 0; addShift(6, 1, 10, 20, 30) = 1
                position(0, 0, 6, 0) = 1; position(0, 0, 6, 1) = 2; position(0, 0, 6, 3) = 50
                position(1, 1, 3, 0) = -7; position(1, 1, 3, 1) = -3; position(1, 1, 3, 2) = 2
                position(1, 1, 4, 0) = -12; position(1, 1, 4, 1) = -3; position(1, 1, 4, 2) = 3
                position(1, 1, 6, 0) = -2; position(1, 1, 6, 1) = 17; position(1, 1, 6, 3) = 90
                """);
        s.says("`figure`: number of a figure", """
                position(0, 0, 0, 0) = NO_VALUE
                addFigure(3, 0, 50) = 0; addFigure(4, 0, 50) = 1
                position(0, 0, 0, 0) = 3; position(-1, 0, 0, 0) = NO_VALUE
                position(1, 0, 0, 0) = 4; position(2, 0, 0, 0) = NO_VALUE
                position(LEAST, 0, 0, 0) = NO_VALUE; position(GREATEST, 0, 0, 0) = NO_VALUE

                6 x addFigure(#, 0, 50) = #
                position(5, 0, 0, 0) = 5; position(6, 0, 0, 0) = NO_VALUE
                """);
        s.says("`point`: 0 for the base, k + 1 for the end of limb k", """
                addFigure(3, 0, 50) = 0
                position(0, 0, 0, 0) = 3; position(0, -1, 0, 0) = NO_VALUE; position(0, 1, 0, 0) = NO_VALUE
                8 x addLimb(0, #-1, 10, 0) = #
                position(0, 1, 0, 0) = 13; position(0, 2, 0, 0) = 23
                position(0, 8, 0, 0) = 83; position(0, 9, 0, 0) = NO_VALUE
                position(0, LEAST, 0, 0) = NO_VALUE; position(0, GREATEST, 0, 0) = NO_VALUE
                """);
        s.says("`beat`: 0 to 99", """
                addFigure(3, 0, 50) = 0; addShift(0, 0, 1, 0, 0) = 0; addShift(99, 0, 1, 0, 0) = 1
                position(0, 0, 0, 0) = 4; position(0, 0, -1, 0) = NO_VALUE
                position(0, 0, 99, 0) = 5; position(0, 0, 100, 0) = NO_VALUE
                position(0, 0, LEAST, 0) = NO_VALUE; position(0, 0, GREATEST, 0) = NO_VALUE
                """);
    }

    private static void positionAnswers(Sentences s) {
        s.says("""
                `what`: 0 for x, 1 for y, 2 for the total direction of the limb (0 for the base), 3 for the plane of
                the figure""", """
                addFigure(3, 4, 55) = 0; addLimb(0, -1, 5, 7) = 0; addLimb(0, 0, 6, 7) = 1
                position(0, 0, 0, 0) = 3; position(0, 0, 0, 1) = 4; position(0, 0, 0, 2) = 0
                position(0, 0, 0, 3) = 55
                position(0, 2, 0, 0) = 8; position(0, 2, 0, 1) = -7; position(0, 2, 0, 2) = 6
                position(0, 2, 0, 3) = 55
                addTurn(0, 0, 0, 2) = 0
                position(0, 0, 0, 2) = 0; position(0, 2, 0, 2) = 0 -- 9 + 7
                position(0, 0, 0, -1) = NO_VALUE; position(0, 0, 0, 4) = NO_VALUE
                position(0, 0, 0, LEAST) = NO_VALUE; position(0, 0, 0, GREATEST) = NO_VALUE
                """);
        s.says("""
                Returns the property; NO_VALUE if there is no such figure or point, or another argument is out of
                range.""", """
                addFigure(-1, -3, 55) = 0
                position(0, 0, 0, 0) = -1; position(0, 0, 0, 1) = -3 -- as large as errors, but none
                position(1, 0, 0, 0) = NO_VALUE; position(0, 1, 0, 0) = NO_VALUE
                position(0, 0, 100, 0) = NO_VALUE; position(0, 0, 0, 4) = NO_VALUE
                position(1, 1, 100, 4) = NO_VALUE; position(-1, -1, -1, -1) = NO_VALUE
                """);
    }
}

/** The sentences of the promises 17 to 19: hands, busiestBeat, activeRods. */
final class HandsSentences {
    private HandsSentences() {
    }

    static void tell(Sentences s) {
        hands(s);
        busiestBeat(s);
        activeRods(s);
    }

    private static void hands(Sentences s) {
        s.in("Promise 17");
        s.says("`beat`: 0 to 99", """
                addFigure(0, 0, 50) = 0; addShift(0, 0, 0, 0, 0) = 0; addShift(99, 0, 0, 0, 0) = 1
                hands(0) = 1; hands(-1) = BAD_VALUE; hands(1) = 0
                hands(99) = 1; hands(100) = BAD_VALUE; hands(98) = 0
                hands(LEAST) = BAD_VALUE; hands(GREATEST) = BAD_VALUE
                """);
        s.says("Returns the number of hands for this beat; BAD_VALUE.", """
                hands(0) = 0; hands(100) = BAD_VALUE -- without figures

                6 x addFigure(0, 0, 50) = #
                6 x addLimb(#, -1, 1, 0) = 0
                6 x addLimb(#, 0, 1, 0) = 1
                6 x addTurn(3, #, 0, 1) = #
                hands(3) = 6
                6 x addTurn(3, #, 1, 1) = #+6
                hands(3) = 6 -- each with its parent
                6 x addShift(3, #, 1, 0, 0) = #+12
                hands(3) = 12; hands(2) = 0; hands(4) = 0; hands(100) = BAD_VALUE

                6 x addFigure(0, 0, 50) = # -- as many as a full script can need
                8 x addLimb(0, -1, 1, 0) = #
                8 x addLimb(1, -1, 1, 0) = #
                8 x addLimb(2, -1, 1, 0) = #
                8 x addLimb(3, -1, 1, 0) = #
                8 x addLimb(4, -1, 1, 0) = #
                8 x addLimb(5, -1, 1, 0) = #
                8 x addTurn(9, 0, #, 1) = #
                8 x addTurn(9, 1, #, 1) = #+8
                8 x addTurn(9, 2, #, 1) = #+16
                8 x addTurn(9, 3, #, 1) = #+24
                8 x addTurn(9, 4, #, 1) = #+32
                8 x addTurn(9, 5, #, 1) = #+40
                6 x addShift(9, #, 1, 0, 0) = #+48
                6 x addShift(9, #, 1, 0, 0) = #+54
                addShift(9, 0, 1, 0, 0) = FULL
                hands(9) = 54; busiestBeat() = 9
                """);
    }

    private static void busiestBeat(Sentences s) {
        s.in("Promise 18");
        s.says("Returns the first beat with the greatest number of hands; NONE if the script is empty.", """
                busiestBeat() = NONE
                addFigure(0, 0, 50) = 0; addLimb(0, -1, 1, 0) = 0; addLimb(0, 0, 1, 0) = 1; addLimb(0, 0, 1, 0) = 2
                busiestBeat() = NONE
                addShift(99, 0, 0, 0, 0) = 0; busiestBeat() = 99
                addTurn(50, 0, 1, 1) = 1; busiestBeat() = 50 -- the first of equals
                addTurn(60, 0, 0, 1) = 2; addTurn(60, 0, 1, 1) = 3; busiestBeat() = 50 -- two rods, one hand
                addTurn(70, 0, 1, 1) = 4; addTurn(70, 0, 2, 1) = 5; busiestBeat() = 70 -- two hands
                addShift(0, 0, 0, 0, 0) = 6; busiestBeat() = 70
                addTurn(0, 0, 0, 1) = 7; busiestBeat() = 0
                removeMoves(1) = 7; busiestBeat() = 70
                removeMoves(0) = 7; busiestBeat() = 70
                removeMoves(6) = 1; busiestBeat() = 99
                removeMoves(2) = BAD_VALUE; busiestBeat() = 99
                removeMoves(1) = 0; busiestBeat() = NONE
                """);
    }

    private static void activeRods(Sentences s) {
        s.in("Promise 19");
        s.says("Counts the rods of a figure that are active in a beat.", """
                addFigure(0, 0, 50) = 0; addFigure(0, 0, 50) = 1
                8 x addLimb(0, #-1, 1, 0) = #
                addLimb(1, -1, 1, 0) = 0
                activeRods(0, 0) = 0
                8 x addTurn(0, 0, #, 1) = #
                activeRods(0, 0) = 8 -- rods, not hands
                addTurn(0, 0, 7, 1) = 8; activeRods(0, 0) = 8 -- rods, not moves
                addShift(0, 0, 1, 0, 0) = 9; activeRods(0, 0) = 9
                addShift(0, 0, 1, 0, 0) = 10; activeRods(0, 0) = 9
                activeRods(1, 0) = 0; activeRods(0, 1) = 0
                addTurn(1, 1, 0, 1) = 11; activeRods(1, 1) = 1; activeRods(1, 0) = 0; activeRods(0, 1) = 0
                """);
        s.says("`figure`: number of a figure", """
                activeRods(0, 0) = NO_SUCH_FIGURE
                addFigure(0, 0, 50) = 0; addFigure(0, 0, 50) = 1; addShift(0, 1, 0, 0, 0) = 0
                activeRods(0, 0) = 0; activeRods(-1, 0) = NO_SUCH_FIGURE
                activeRods(1, 0) = 1; activeRods(2, 0) = NO_SUCH_FIGURE
                activeRods(LEAST, 0) = NO_SUCH_FIGURE; activeRods(GREATEST, 0) = NO_SUCH_FIGURE

                6 x addFigure(0, 0, 50) = #
                activeRods(5, 0) = 0; activeRods(6, 0) = NO_SUCH_FIGURE
                """);
        s.says("`beat`: 0 to 99", """
                addFigure(0, 0, 50) = 0; addShift(0, 0, 0, 0, 0) = 0; addShift(99, 0, 0, 0, 0) = 1
                activeRods(0, 0) = 1; activeRods(0, -1) = BAD_VALUE; activeRods(0, 1) = 0
                activeRods(0, 99) = 1; activeRods(0, 100) = BAD_VALUE; activeRods(0, 98) = 0
                activeRods(0, LEAST) = BAD_VALUE; activeRods(0, GREATEST) = BAD_VALUE
                """);
        s.says("Returns the number of rods; NO_SUCH_FIGURE; BAD_VALUE.", """
                addFigure(0, 0, 50) = 0
                activeRods(0, 0) = 0; activeRods(0, 100) = BAD_VALUE; activeRods(1, 0) = NO_SUCH_FIGURE
                activeRods(1, 100) = NO_SUCH_FIGURE; activeRods(-1, -1) = NO_SUCH_FIGURE
                """);
    }
}

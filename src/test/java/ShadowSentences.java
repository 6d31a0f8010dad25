/** The sentences of the promises 10 to 16: box, overlap, crossings, nextCrossing, within, highest, planeFor. */
final class ShadowSentences {
    private ShadowSentences() {
    }

    static void tell(Sentences s) {
        box(s);
        overlap(s);
        crossings(s);
        crossingsAnswers(s);
        nextCrossing(s);
        within(s);
        highest(s);
        planeFor(s);
    }

    private static void box(Sentences s) {
        s.in("Promise 10");
        s.says("Returns a measure of the box of a figure's shadow at a beat.", """
                addFigure(0, 0, 50) = 0; addFigure(5, 0, 50) = 1
                addLimb(1, -1, 10, 1) = 0
                addTurn(5, 1, 0, 1) = 0; addShift(7, 1, 0, 0, -40) = 1
                box(0, 7, 1) = 0/1; box(0, 7, 5) = 0/1
                box(1, 4, 0) = 10/1; box(1, 4, 4) = 20/1
                box(1, 5, 0) = 10/1; box(1, 5, 4) = 0/1; box(1, 5, 5) = 20/1
                box(1, 7, 0) = 50/1; box(1, 7, 5) = 100/1
                """);
        s.says("`figure`: number of a figure", """
                box(0, 0, 0, 0) = NO_VALUE
                addFigure(3, 0, 100) = 0; addFigure(4, 0, 100) = 1
                box(0, 0, 0) = 3/1; box(-1, 0, 0, 0) = NO_VALUE
                box(1, 0, 0) = 4/1; box(2, 0, 0, 0) = NO_VALUE
                box(LEAST, 0, 0, 0) = NO_VALUE; box(GREATEST, 0, 0, 0) = NO_VALUE

                6 x addFigure(#, 0, 100) = #
                box(5, 0, 0) = 5/1; box(6, 0, 0, 0) = NO_VALUE
                """);
        s.says("`beat`: 0 to 99", """
                addFigure(3, 0, 100) = 0; addShift(0, 0, 1, 0, 0) = 0; addShift(99, 0, 1, 0, 0) = 1
                box(0, 0, 0) = 4/1; box(0, -1, 0, 0) = NO_VALUE
                box(0, 99, 0) = 5/1; box(0, 100, 0, 0) = NO_VALUE
                box(0, LEAST, 0, 0) = NO_VALUE; box(0, GREATEST, 0, 0) = NO_VALUE
                """);
        s.says("""
                `what`: 0 for the least x, 1 for the greatest x, 2 for the least y, 3 for the greatest y, 4 for the
                width (in x), 5 for the height (in y)""", """
                addFigure(1, 2, 100) = 0
                addLimb(0, -1, 8, 0) = 0; addLimb(0, -1, 5, 2) = 1; addLimb(0, -1, 4, 4) = 2; addLimb(0, -1, 9, 6) = 3
                box(0, 0, 0) = -3/1; box(0, 0, 1) = 9/1; box(0, 0, 2) = -7/1; box(0, 0, 3) = 7/1
                box(0, 0, 4) = 12/1; box(0, 0, 5) = 14/1
                box(0, 0, -1, 0) = NO_VALUE; box(0, 0, 6, 0) = NO_VALUE
                box(0, 0, LEAST, 0) = NO_VALUE; box(0, 0, GREATEST, 0) = NO_VALUE

                addFigure(-90, -80, 100) = 0; addLimb(0, -1, 2, 5) = 0 -- all of it on the negative side
                box(0, 0, 0) = -92/1; box(0, 0, 1) = -90/1; box(0, 0, 2) = -82/1; box(0, 0, 3) = -80/1
                box(0, 0, 4) = 2/1; box(0, 0, 5) = 2/1
                """);
        s.says("`part`: 0 for the numerator, 1 for the denominator", """
                addFigure(-5, 0, 30) = 0
                box(0, 0, 0, 0) = -50; box(0, 0, 0, 1) = 3
                box(0, 0, 0, -1) = NO_VALUE; box(0, 0, 0, 2) = NO_VALUE
                box(0, 0, 0, LEAST) = NO_VALUE; box(0, 0, 0, GREATEST) = NO_VALUE
                """);
        s.says("Returns the number; NO_VALUE if there is no such figure, or another argument is out of range.", """
                addFigure(-1, -4, 100) = 0
                box(0, 0, 0, 0) = -1; box(0, 0, 2, 0) = -4 -- as large as errors, but none
                box(1, 0, 0, 0) = NO_VALUE; box(0, 100, 0, 0) = NO_VALUE; box(0, 0, 6, 0) = NO_VALUE
                box(0, 0, 0, 2) = NO_VALUE; box(1, 100, 6, 2) = NO_VALUE; box(-1, -1, -1, -1) = NO_VALUE
                """);
    }

    private static void overlap(Sentences s) {
        s.in("Promise 11");
        s.says("""
                Returns the area in which the boxes of two figures overlap at a beat, 0 also if they do not
                overlap.""", """
                addFigure(0, 0, 50) = 0; addLimb(0, -1, 5, 1) = 0 -- 0 to 10
                addFigure(9, 9, 100) = 1; addLimb(1, -1, 4, 1) = 0 -- 9 to 13
                overlap(0, 1, 0) = 1/1; overlap(1, 0, 0) = 1/1
                addShift(3, 1, -4, -4, 0) = 0; overlap(0, 1, 3) = 16/1 -- one box within the other
                addShift(4, 1, -9, 0, 0) = 1; overlap(0, 1, 4) = 0/1 -- they touch on the left
                addShift(5, 1, -1, 0, 0) = 2; overlap(0, 1, 5) = 0/1 -- apart
                addShift(6, 1, 0, -10, 0) = 3; overlap(0, 1, 6) = 0/1 -- apart in x and in y
                overlap(0, 1, 2) = 1/1

                addFigure(0, 0, 30) = 0; addLimb(0, -1, 1, 1) = 0 -- 0 to 10/3
                addFigure(1, 1, 70) = 1; addLimb(1, -1, 9, 1) = 0 -- 10/7 to 100/7
                overlap(0, 1, 0) = 1600/441

                addFigure(0, 0, 99) = 0; addLimb(0, -1, 1, 1) = 0 -- 0 to 100/99
                addFigure(1, 1, 100) = 1; addLimb(1, -1, 1, 1) = 0 -- 1 to 2
                overlap(0, 1, 0) = 1/9801 -- as little as can be
                addShift(1, 1, 0, -1, 0) = 0; overlap(0, 1, 1) = 1/99 -- 1/99 wide, 1 high
                addShift(2, 1, -1, 1, 0) = 1; overlap(0, 1, 2) = 1/99 -- 1 wide, 1/99 high
                """);
        s.says("`a`: number of a figure", """
                overlap(0, 0, 0, 0) = NO_VALUE
                addFigure(0, 0, 100) = 0; addFigure(0, 0, 100) = 1; addLimb(1, -1, 2, 1) = 0
                overlap(0, 1, 0) = 0/1; overlap(-1, 1, 0, 0) = NO_VALUE
                overlap(1, 1, 0) = 4/1; overlap(2, 1, 0, 0) = NO_VALUE
                overlap(LEAST, 1, 0, 0) = NO_VALUE; overlap(GREATEST, 1, 0, 0) = NO_VALUE
                """);
        s.says("`b`: number of a figure, perhaps the same one", """
                addFigure(0, 0, 100) = 0; addFigure(0, 0, 100) = 1; addLimb(1, -1, 2, 1) = 0
                overlap(1, 0, 0) = 0/1; overlap(1, -1, 0, 0) = NO_VALUE
                overlap(1, 1, 0) = 4/1; overlap(1, 2, 0, 0) = NO_VALUE
                overlap(1, LEAST, 0, 0) = NO_VALUE; overlap(1, GREATEST, 0, 0) = NO_VALUE
                overlap(0, 0, 0) = 0/1

                6 x addFigure(0, 0, 100) = #
                overlap(5, 5, 0) = 0/1; overlap(5, 6, 0, 0) = NO_VALUE; overlap(6, 5, 0, 0) = NO_VALUE
                """);
        s.says("`beat`: 0 to 99", """
                addFigure(0, 0, 100) = 0; addLimb(0, -1, 10, 1) = 0
                addShift(0, 0, 0, 0, -50) = 0; addShift(99, 0, 0, 0, -25) = 1
                overlap(0, 0, 0) = 400/1; overlap(0, 0, -1, 0) = NO_VALUE
                overlap(0, 0, 98) = 400/1; overlap(0, 0, 99) = 1600/1; overlap(0, 0, 100, 0) = NO_VALUE
                overlap(0, 0, LEAST, 0) = NO_VALUE; overlap(0, 0, GREATEST, 0) = NO_VALUE
                """);
        s.says("`part`: 0 for the numerator, 1 for the denominator", """
                addFigure(0, 0, 30) = 0; addLimb(0, -1, 1, 1) = 0
                overlap(0, 0, 0, 0) = 100; overlap(0, 0, 0, 1) = 9
                overlap(0, 0, 0, -1) = NO_VALUE; overlap(0, 0, 0, 2) = NO_VALUE
                overlap(0, 0, 0, LEAST) = NO_VALUE; overlap(0, 0, 0, GREATEST) = NO_VALUE
                """);
        s.says("Returns the number; NO_VALUE if there is no such figure, or another argument is out of range.", """
                addFigure(0, 0, 50) = 0; addFigure(90, 0, 50) = 1
                overlap(0, 1, 0, 0) = 0; overlap(0, 1, 0, 1) = 1 -- apart is no error
                overlap(0, 2, 0, 0) = NO_VALUE; overlap(2, 0, 0, 0) = NO_VALUE; overlap(0, 1, 100, 0) = NO_VALUE
                overlap(0, 1, 0, 2) = NO_VALUE; overlap(2, 2, 100, 2) = NO_VALUE; overlap(-1, -1, -1, -1) = NO_VALUE
                """);
    }

    private static void crossings(Sentences s) {
        s.in("Promise 12");
        s.says("""
                Counts the pairs of a limb of one figure and a limb of another one the segments of whose shadows
                have at least one point in common at a beat.""", """
                addFigure(0, 0, 100) = 0; addFigure(0, 0, 100) = 1
                crossings(0, 1, 0) = 0 -- two bases in one point are no limbs
                addLimb(0, -1, 10, 0) = 0; crossings(0, 1, 0) = 0
                addLimb(1, -1, 10, 2) = 0; crossings(0, 1, 0) = 1 -- start on start
                addShift(1, 1, 10, 0, 0) = 0; crossings(0, 1, 1) = 1 -- start on end
                addShift(2, 1, 1, 0, 0) = 1; crossings(0, 1, 2) = 0 -- one beside it
                addShift(3, 1, -5, -10, 0) = 2; crossings(0, 1, 3) = 1 -- end in the middle
                addShift(4, 1, 0, -1, 0) = 3; crossings(0, 1, 4) = 0 -- one below it
                addShift(5, 1, 0, 5, 0) = 4; crossings(0, 1, 5) = 1 -- across

                addFigure(0, 0, 100) = 0; addLimb(0, -1, 10, 0) = 0
                addFigure(10, 0, 100) = 1; addLimb(1, -1, 10, 0) = 0
                crossings(0, 1, 0) = 1 -- on one line, end to end
                addShift(1, 1, 1, 0, 0) = 0; crossings(0, 1, 1) = 0 -- on one line, one apart
                addShift(2, 1, -3, 0, 0) = 1; crossings(0, 1, 2) = 1 -- on one line, partly the same
                addShift(3, 1, -8, 0, 0) = 2; crossings(0, 1, 3) = 1 -- the same segment
                addShift(4, 1, 0, 1, 0) = 3; crossings(0, 1, 4) = 0 -- parallel
                addShift(5, 1, -10, -1, 0) = 4; crossings(0, 1, 5) = 1 -- on one line, on the other side
                addShift(6, 1, -1, 0, 0) = 5; crossings(0, 1, 6) = 0

                addFigure(0, 0, 100) = 0; addLimb(0, -1, 10, 1) = 0
                addFigure(10, 0, 100) = 1; addLimb(1, -1, 5, 3) = 0
                crossings(0, 1, 0) = 1 -- its end, (5, 5), on the slope
                addShift(1, 1, 1, 0, 0) = 0; crossings(0, 1, 1) = 0 -- within the box, beside the slope
                addTurn(2, 1, 0, 2) = 1; addShift(2, 1, 1, 12, 0) = 2
                crossings(0, 1, 2) = 1 -- (12, 12) to (7, 7): on one slope, partly the same
                addTurn(3, 1, 0, -4) = 3; addShift(3, 1, -1, -1, 0) = 4
                crossings(0, 1, 3) = 0 -- (11, 11) to (16, 16): the same slope, one apart
                addShift(4, 1, -1, -1, 0) = 5; crossings(0, 1, 4) = 1

                addFigure(0, 0, 50) = 0; addFigure(0, 0, 50) = 1 -- all pairs, of two full figures
                8 x addLimb(0, -1, 1, #) = #
                8 x addLimb(1, -1, 2, #) = #
                crossings(0, 1, 0) = 64; crossings(1, 0, 0) = 64
                """);
        s.says("`a`: number of a figure", """
                crossings(0, 1, 0) = NO_SUCH_FIGURE
                addFigure(0, 0, 50) = 0; addFigure(0, 0, 50) = 1; addFigure(0, 0, 50) = 2
                addLimb(0, -1, 1, 0) = 0; addLimb(1, -1, 1, 0) = 0; addLimb(2, -1, 1, 0) = 0; addLimb(2, -1, 1, 0) = 1
                crossings(0, 1, 0) = 1; crossings(-1, 1, 0) = NO_SUCH_FIGURE
                crossings(2, 1, 0) = 2; crossings(3, 1, 0) = NO_SUCH_FIGURE
                crossings(LEAST, 1, 0) = NO_SUCH_FIGURE; crossings(GREATEST, 1, 0) = NO_SUCH_FIGURE
                """);
        s.says("`b`: number of another figure", """
                addFigure(0, 0, 50) = 0
                crossings(0, 1, 0) = NO_SUCH_FIGURE; crossings(0, 0, 0) = BAD_VALUE
                addFigure(0, 0, 50) = 1; addFigure(0, 0, 50) = 2
                addLimb(0, -1, 1, 0) = 0; addLimb(1, -1, 1, 0) = 0; addLimb(2, -1, 1, 0) = 0; addLimb(2, -1, 1, 0) = 1
                crossings(1, 0, 0) = 1; crossings(1, -1, 0) = NO_SUCH_FIGURE
                crossings(1, 2, 0) = 2; crossings(1, 3, 0) = NO_SUCH_FIGURE
                crossings(1, LEAST, 0) = NO_SUCH_FIGURE; crossings(1, GREATEST, 0) = NO_SUCH_FIGURE
                crossings(1, 1, 0) = BAD_VALUE

                6 x addFigure(0, 0, 50) = #
                crossings(0, 5, 0) = 0; crossings(0, 6, 0) = NO_SUCH_FIGURE; crossings(6, 0, 0) = NO_SUCH_FIGURE
                """);
        s.says("`beat`: 0 to 99", """
                addFigure(0, 0, 50) = 0; addLimb(0, -1, 5, 0) = 0; addFigure(0, 9, 50) = 1; addLimb(1, -1, 5, 0) = 0
                addShift(0, 1, 0, -9, 0) = 0; addShift(99, 1, 0, 9, 0) = 1
                crossings(0, 1, 0) = 1; crossings(0, 1, -1) = BAD_VALUE
                crossings(0, 1, 98) = 1; crossings(0, 1, 99) = 0; crossings(0, 1, 100) = BAD_VALUE
                crossings(0, 1, LEAST) = BAD_VALUE; crossings(0, 1, GREATEST) = BAD_VALUE
                """);
    }

    private static void crossingsAnswers(Sentences s) {
        s.says("Returns the number of pairs; NO_SUCH_FIGURE; BAD_VALUE, also if both figures are the same.", """
                addFigure(0, 0, 30) = 0; addLimb(0, -1, 10, 0) = 0
                addFigure(20, -1, 60) = 1; addLimb(1, -1, 5, 2) = 0
                crossings(0, 1, 0) = 1 -- 20 * 100 / 60 is 10 * 100 / 30
                addShift(1, 1, 1, 0, 0) = 0; crossings(0, 1, 1) = 0 -- 21 * 100 / 60 is beyond
                addShift(2, 1, 0, 0, 3) = 1; crossings(0, 1, 2) = 1 -- 21 * 100 / 63 is not
                crossings(0, 0, 0) = BAD_VALUE; crossings(1, 1, 0) = BAD_VALUE
                crossings(0, 1, 100) = BAD_VALUE; crossings(1, 1, 100) = BAD_VALUE
                crossings(2, 2, 0) = NO_SUCH_FIGURE; crossings(2, 1, 100) = NO_SUCH_FIGURE
                crossings(0, 2, -1) = NO_SUCH_FIGURE; crossings(-1, -1, 0) = NO_SUCH_FIGURE
                """);
    }

    private static void nextCrossing(Sentences s) {
        s.in("Promise 13");
        s.says("Finds the first beat, from a given one on, at which two figures have crossings.", """
                addFigure(0, 0, 50) = 0; addLimb(0, -1, 5, 0) = 0; addFigure(0, 9, 50) = 1; addLimb(1, -1, 5, 0) = 0
                addShift(40, 1, 0, -9, 0) = 0; addShift(42, 1, 0, 9, 0) = 1; addShift(60, 0, 0, 9, 0) = 2
                nextCrossing(0, 1, 0) = 40; nextCrossing(0, 1, 39) = 40; nextCrossing(0, 1, 40) = 40
                nextCrossing(0, 1, 41) = 41 -- without a move everything stays
                nextCrossing(0, 1, 42) = 60; nextCrossing(1, 0, 59) = 60; nextCrossing(1, 0, 77) = 77

                addFigure(0, 0, 50) = 0; addLimb(0, -1, 5, 0) = 0; addFigure(0, 0, 50) = 1; addLimb(1, -1, 5, 0) = 0
                nextCrossing(0, 1, 0) = 0; nextCrossing(0, 1, 57) = 57; nextCrossing(0, 1, 99) = 99

                addFigure(0, 0, 50) = 0; addLimb(0, -1, 5, 0) = 0; addFigure(0, 9, 50) = 1; addLimb(1, -1, 5, 0) = 0
                addShift(7, 1, 0, -9, 0) = 0; addShift(7, 1, 0, 9, 0) = 1
                nextCrossing(0, 1, 0) = NONE -- there and back within a beat
                """);
        s.says("`a`: number of a figure", """
                nextCrossing(0, 1, 0) = NO_SUCH_FIGURE
                addFigure(0, 0, 50) = 0; addFigure(0, 0, 50) = 1; addFigure(0, 0, 50) = 2
                addLimb(1, -1, 1, 0) = 0; addLimb(2, -1, 1, 0) = 0
                nextCrossing(0, 1, 0) = NONE; nextCrossing(-1, 1, 0) = NO_SUCH_FIGURE
                nextCrossing(2, 1, 0) = 0; nextCrossing(3, 1, 0) = NO_SUCH_FIGURE
                nextCrossing(LEAST, 1, 0) = NO_SUCH_FIGURE; nextCrossing(GREATEST, 1, 0) = NO_SUCH_FIGURE
                """);
        s.says("`b`: number of another figure", """
                addFigure(0, 0, 50) = 0
                nextCrossing(0, 1, 0) = NO_SUCH_FIGURE; nextCrossing(0, 0, 0) = BAD_VALUE
                addFigure(0, 0, 50) = 1; addFigure(0, 0, 50) = 2
                addLimb(1, -1, 1, 0) = 0; addLimb(2, -1, 1, 0) = 0
                nextCrossing(1, 0, 0) = NONE; nextCrossing(1, -1, 0) = NO_SUCH_FIGURE
                nextCrossing(1, 2, 0) = 0; nextCrossing(1, 3, 0) = NO_SUCH_FIGURE
                nextCrossing(1, LEAST, 0) = NO_SUCH_FIGURE; nextCrossing(1, GREATEST, 0) = NO_SUCH_FIGURE
                nextCrossing(1, 1, 0) = BAD_VALUE
                """);
        s.says("`beat`: 0 to 99", """
                addFigure(0, 0, 50) = 0; addLimb(0, -1, 5, 0) = 0; addFigure(0, 0, 50) = 1; addLimb(1, -1, 5, 0) = 0
                nextCrossing(0, 1, 0) = 0; nextCrossing(0, 1, -1) = BAD_VALUE
                nextCrossing(0, 1, 99) = 99; nextCrossing(0, 1, 100) = BAD_VALUE
                nextCrossing(0, 1, LEAST) = BAD_VALUE; nextCrossing(0, 1, GREATEST) = BAD_VALUE
                """);
        s.says("""
                Returns this beat; NO_SUCH_FIGURE; BAD_VALUE, also if both figures are the same; NONE if there is
                none up to beat 99.""", """
                addFigure(0, 0, 50) = 0; addLimb(0, -1, 5, 0) = 0; addFigure(0, 9, 50) = 1; addLimb(1, -1, 5, 0) = 0
                nextCrossing(0, 1, 0) = NONE; nextCrossing(0, 1, 99) = NONE
                addShift(99, 1, 0, -9, 0) = 0
                nextCrossing(0, 1, 0) = 99; nextCrossing(0, 1, 98) = 99; nextCrossing(0, 1, 99) = 99
                addShift(99, 1, 0, 9, 0) = 1; nextCrossing(0, 1, 0) = NONE
                addShift(10, 1, 0, -9, 0) = 2; addShift(20, 1, 0, 9, 0) = 3
                nextCrossing(0, 1, 19) = 19; nextCrossing(0, 1, 20) = NONE -- only before it
                nextCrossing(0, 0, 20) = BAD_VALUE; nextCrossing(1, 1, 100) = BAD_VALUE
                nextCrossing(0, 1, 100) = BAD_VALUE
                nextCrossing(2, 2, 0) = NO_SUCH_FIGURE; nextCrossing(0, 2, 100) = NO_SUCH_FIGURE
                nextCrossing(-1, 0, -1) = NO_SUCH_FIGURE
                """);
    }

    private static void within(Sentences s) {
        s.in("Promise 14");
        s.says("""
                Returns the figures whose shadows lie within a rectangle of the screen around its middle at a beat
                (they may touch its border).""", """
                addFigure(0, 0, 50) = 0
                addLimb(0, -1, 10, 0) = 0; addLimb(0, -1, 8, 2) = 1; addLimb(0, -1, 9, 4) = 2; addLimb(0, -1, 7, 6) = 3
                within(20, 16, 0) = 1; within(19, 16, 0) = 0; within(20, 15, 0) = 0
                addShift(5, 0, -1, -1, 0) = 0 -- now the left and the lower side decide
                within(20, 16, 5) = 1; within(19, 16, 5) = 0; within(20, 15, 5) = 0
                within(20, 15, 4) = 0

                addFigure(1, -1, 30) = 0 -- 10/3
                within(3, 4, 0) = 0; within(4, 3, 0) = 0; within(4, 4, 0) = 1
                """);
        s.says("`x`: half the width of the rectangle, 0 to 20000", """
                setDistance(200) = 100; addFigure(100, 0, 1) = 0; addFigure(0, 0, 1) = 1
                within(20000, 0, 0) = 3; within(20001, 0, 0) = BAD_VALUE; within(19999, 0, 0) = 2
                within(0, 0, 0) = 2; within(-1, 0, 0) = BAD_VALUE
                within(LEAST, 0, 0) = BAD_VALUE; within(GREATEST, 0, 0) = BAD_VALUE
                addShift(1, 0, 1, 0, 0) = 0; within(20000, 20000, 1) = 2
                """);
        s.says("`y`: half its height, 0 to 20000", """
                setDistance(200) = 100; addFigure(0, -100, 1) = 0; addFigure(0, 0, 1) = 1
                within(0, 20000, 0) = 3; within(0, 20001, 0) = BAD_VALUE; within(0, 19999, 0) = 2
                within(0, 0, 0) = 2; within(0, -1, 0) = BAD_VALUE
                within(0, LEAST, 0) = BAD_VALUE; within(0, GREATEST, 0) = BAD_VALUE
                addShift(1, 0, 0, -1, 0) = 0; within(20000, 20000, 1) = 2
                """);
        s.says("`beat`: 0 to 99", """
                addFigure(0, 0, 100) = 0; addShift(0, 0, 5, 0, 0) = 0; addShift(99, 0, 1, 0, 0) = 1
                within(5, 0, 0) = 1; within(5, 0, -1) = BAD_VALUE
                within(5, 0, 98) = 1; within(5, 0, 99) = 0; within(5, 0, 100) = BAD_VALUE
                within(5, 0, LEAST) = BAD_VALUE; within(5, 0, GREATEST) = BAD_VALUE
                """);
        s.says("Returns a bit set; BAD_VALUE.", """
                within(0, 0, 0) = 0; within(20000, 20000, 99) = 0 -- no figures

                6 x addFigure(#, 0, 100) = #
                within(0, 0, 0) = 1; within(1, 0, 0) = 3; within(2, 0, 0) = 7; within(3, 0, 0) = 15
                within(4, 0, 0) = 31; within(5, 0, 0) = 63
                addShift(1, 0, 50, 0, 0) = 0; addShift(1, 3, 50, 0, 0) = 1; within(5, 0, 1) = 54
                addShift(2, 5, -5, 0, 0) = 2; within(0, 0, 2) = 32
                within(-1, 0, 2) = BAD_VALUE
                """);
    }

    private static void highest(Sentences s) {
        s.in("Promise 15");
        s.says("""
                Finds the figure whose shadow box has the greatest height at a beat (5 in box()), the first one of
                several.""", """
                addFigure(0, 90, 1) = 0; addFigure(0, 0, 30) = 1; addFigure(0, 0, 60) = 2
                highest(0) = 0 -- all of height 0
                addLimb(0, -1, 20, 0) = 0; highest(0) = 0
                addLimb(1, -1, 3, 6) = 0; highest(0) = 1 -- neither y nor the width count
                addLimb(2, -1, 6, 1) = 0; highest(0) = 1 -- 6 * 100 / 60 is 3 * 100 / 30
                addShift(5, 2, 0, 0, -1) = 0; highest(5) = 2; highest(4) = 1
                addShift(6, 1, 0, 0, -1) = 1; highest(6) = 1
                addTurn(7, 1, 0, 2) = 2; highest(7) = 2

                6 x addFigure(0, 0, 100) = #
                addLimb(5, -1, 1, 2) = 0; highest(0) = 5
                addLimb(4, -1, 1, 6) = 0; highest(0) = 4
                addLimb(3, -1, 1, 0) = 0; highest(0) = 4
                """);
        s.says("`beat`: 0 to 99", """
                addFigure(0, 0, 100) = 0; addFigure(0, 0, 100) = 1; addLimb(1, -1, 5, 0) = 0
                addTurn(0, 1, 0, 1) = 0; addTurn(99, 1, 0, -1) = 1
                highest(0) = 1; highest(-1) = BAD_VALUE
                highest(98) = 1; highest(99) = 0; highest(100) = BAD_VALUE
                highest(LEAST) = BAD_VALUE; highest(GREATEST) = BAD_VALUE
                """);
        s.says("Returns its number; BAD_VALUE; NONE if there are no figures.", """
                highest(0) = NONE; highest(99) = NONE; highest(100) = BAD_VALUE; highest(-1) = BAD_VALUE
                addFigure(0, 0, 100) = 0
                highest(0) = 0; highest(99) = 0; highest(100) = BAD_VALUE
                """);
    }

    private static void planeFor(Sentences s) {
        s.in("Promise 16");
        s.says("""
                Finds the plane in which a figure, as it is at a beat otherwise, would have a shadow box of at least
                a given height, as close to the screen as possible.""", """
                addFigure(0, 50, 50) = 0; addLimb(0, -1, 7, 2) = 0
                planeFor(0, 0, 70) = 10; planeFor(0, 0, 71) = 9; planeFor(0, 0, 69) = 10
                planeFor(0, 0, 7) = 100; planeFor(0, 0, 8) = 87 -- 700 / 8 is 87.5
                addShift(4, 0, 0, 0, -49) = 0
                planeFor(0, 4, 70) = 10 -- where it stands now does not count
                addTurn(5, 0, 0, 2) = 1
                planeFor(0, 5, 1) = NONE; planeFor(0, 4, 1) = 100 -- but how it stands
                setDistance(20) = 100
                planeFor(0, 0, 70) = 2; planeFor(0, 0, 7) = 20
                """);
        s.says("`figure`: number of a figure", """
                planeFor(0, 0, 0) = NO_SUCH_FIGURE
                addFigure(0, 0, 50) = 0; addFigure(0, 0, 50) = 1; addLimb(1, -1, 1, 2) = 0
                planeFor(0, 0, 1) = NONE; planeFor(-1, 0, 1) = NO_SUCH_FIGURE
                planeFor(1, 0, 1) = 100; planeFor(2, 0, 1) = NO_SUCH_FIGURE
                planeFor(LEAST, 0, 1) = NO_SUCH_FIGURE; planeFor(GREATEST, 0, 1) = NO_SUCH_FIGURE

                6 x addFigure(0, 0, 50) = #
                planeFor(5, 0, 0) = 100; planeFor(6, 0, 0) = NO_SUCH_FIGURE
                """);
        s.says("`beat`: 0 to 99", """
                addFigure(0, 0, 50) = 0; addLimb(0, -1, 5, 0) = 0
                addTurn(0, 0, 0, 1) = 0; addTurn(99, 0, 0, -1) = 1
                planeFor(0, 0, 10) = 50; planeFor(0, -1, 10) = BAD_VALUE
                planeFor(0, 98, 10) = 50; planeFor(0, 99, 10) = NONE; planeFor(0, 100, 10) = BAD_VALUE
                planeFor(0, LEAST, 10) = BAD_VALUE; planeFor(0, GREATEST, 10) = BAD_VALUE
                """);
        s.says("`height`: 0 to 100000", """
                addFigure(0, 0, 50) = 0; addLimb(0, -1, 5, 2) = 0
                planeFor(0, 0, 0) = 100; planeFor(0, 0, -1) = BAD_VALUE; planeFor(0, 0, 1) = 100
                planeFor(0, 0, 100000) = NONE; planeFor(0, 0, 100001) = BAD_VALUE
                planeFor(0, 0, LEAST) = BAD_VALUE; planeFor(0, 0, GREATEST) = BAD_VALUE

                addFigure(0, 0, 50) = 0 -- of height 0 itself
                planeFor(0, 0, 0) = 100; planeFor(0, 0, 1) = NONE
                """);
        s.says("Returns the greatest such plane, 1 to D; NO_SUCH_FIGURE; BAD_VALUE; NONE if there is none.", """
                addFigure(0, 0, 50) = 0; addLimb(0, -1, 7, 2) = 0
                planeFor(0, 0, 700) = 1; planeFor(0, 0, 701) = NONE; planeFor(0, 0, 351) = 1; planeFor(0, 0, 350) = 2
                planeFor(0, 0, 7) = 100; planeFor(0, 0, 3) = 100; planeFor(0, 0, 0) = 100 -- never beyond D
                planeFor(1, 100, -1) = NO_SUCH_FIGURE; planeFor(1, 0, 701) = NO_SUCH_FIGURE
                planeFor(0, 100, 701) = BAD_VALUE; planeFor(0, 0, -1) = BAD_VALUE

                setDistance(200) = 100; addFigure(0, 0, 200) = 0
                8 x addLimb(0, -1, 20, 2) = #
                planeFor(0, 0, 0) = 200; planeFor(0, 0, 20) = 200; planeFor(0, 0, 21) = 190
                planeFor(0, 0, 4000) = 1; planeFor(0, 0, 4001) = NONE

                setDistance(200) = 100; addFigure(0, 0, 200) = 0 -- the highest figure that there can be
                addLimb(0, -1, 20, 2) = 0
                7 x addLimb(0, #, 20, 0) = #+1
                planeFor(0, 0, 160) = 200; planeFor(0, 0, 161) = 198; planeFor(0, 0, 32000) = 1
                planeFor(0, 0, 32001) = NONE; planeFor(0, 0, 100000) = NONE
                """);
    }
}

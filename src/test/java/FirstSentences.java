/** The sentences of the document's first section, "What it is". */
final class FirstSentences {
    private FirstSentences() {
    }

    static void tell(Sentences s) {
        s.in("What it is");
        theatre(s);
        planner(s);
        calls(s);
    }

    private static void theatre(Sentences s) {
        s.says("A planner for a shadow theatre.", """
                count(0) = 0
                """);
        s.says("""
                Jointed figures stand in planes between a lamp and a screen; the closer the plane of a figure is to the
                lamp, the larger is its shadow.""", """
                addFigure(0, 0, 100) = 0; addLimb(0, -1, 12, 2) = 0; addLimb(0, 0, 3, 0) = 1
                box(0, 0, 5) = 15/1
                addShift(1, 0, 0, 0, -1) = 0; box(0, 1, 5) = 500/33
                addShift(2, 0, 0, 0, -49) = 1; box(0, 2, 5) = 30/1
                addShift(3, 0, 0, 0, -48) = 2; box(0, 3, 5) = 750/1
                addShift(4, 0, 0, 0, -1) = 3; box(0, 4, 5) = 1500/1
                """);
    }

    private static void planner(Sentences s) {
        s.says("""
                The planner moves figures and limbs beat by beat, computes sizes, overlaps and crossings of shadows
                exactly, counts the hands that are needed, and finds the order of scenes with the fewest
                changes.""", """
                addFigure(0, 0, 7) = 0; addFigure(2, -1, 11) = 1
                addLimb(0, -1, 3, 0) = 0; addLimb(0, 0, 1, 2) = 1; addLimb(1, -1, 3, 2) = 0; addLimb(1, 0, 2, 6) = 1
                box(0, 0, 4) = 300/7; box(0, 0, 5) = 100/7; box(1, 0, 4) = 200/11; box(1, 0, 5) = 300/11
                overlap(0, 1, 0) = 20000/77; crossings(0, 1, 0) = 1
                addTurn(1, 0, 0, 2) = 0; addTurn(1, 0, 1, 1) = 1; addShift(1, 1, -2, 1, 0) = 2
                position(0, 2, 1, 0) = -1; position(0, 2, 1, 1) = 2; position(1, 1, 1, 0) = 0
                overlap(0, 1, 1) = 0/1; crossings(0, 1, 1) = 2; nextCrossing(0, 1, 1) = 1
                hands(0) = 0; hands(1) = 2; busiestBeat() = 1
                addScene(1) = 0; addScene(6) = 1; addScene(3) = 2
                bestCost() = 3; bestScene(0) = 0; bestScene(1) = 2; bestScene(2) = 1
                """);
    }

    /** All 512 calls are answered as promised, whichever kind was made most. */
    private static void calls(Sentences s) {
        s.says("""
                An object is used for at most 512 calls after it has been made; what later calls answer is free.""", """
                addFigure(0, 0, 50) = 0; addLimb(0, -1, 5, 2) = 0
                60 x addShift(#, 0, 1, 0, 0) = #
                60 x position(0, 0, #, 0) = #+1
                100 x position(0, 1, 99, 1) = 5
                200 x box(0, 99, 5, 0) = 10
                87 x planeFor(0, 0, 0) = 100
                removeMoves(60) = 0; position(0, 0, 99, 0) = 0; count(1) = 0 -- the 512th call

                6 x addFigure(0, 0, 1) = #
                8 x addLimb(5, -1, 20, 1) = #
                60 x addShift(99, 5, 50, 50, 0) = #
                437 x busiestBeat() = 99
                box(5, 99, 1, 0) = 302000 -- the 512th call

                255 x clearScenes() = 0
                addScene(3) = 0; clearScenes() = 1
                252 x setDistance(100) = 100
                addScene(1) = 0; addScene(2) = 1; bestCost() = 2 -- the 512th call
                """);
    }
}

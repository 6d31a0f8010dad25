/** The sentences of the section "Description". */
final class DescriptionSentences {
    private DescriptionSentences() {
    }

    static void tell(Sentences s) {
        s.in("Description");
        stage(s);
        figures(s);
        limbs(s);
        script(s);
        state(s);
        shadows(s);
        hands(s);
        scenes(s);
        fractions(s);
        errors(s);
        constants(s);
    }

    private static void stage(Sentences s) {
        s.says("""
                Stage. The lamp is a point, the screen is a plane opposite to it; the distance D between them is
                from 10 to 200.""", """
                setDistance(10) = 100
                setDistance(9) = BAD_VALUE
                addFigure(0, 0, 10) = 0
                setDistance(200) = 10
                setDistance(201) = BAD_VALUE
                planeFor(0, 0, 0) = 200
                setDistance(100) = 200
                """);
        s.says("A figure is in a plane parallel to the screen, at the distance p from the lamp, 1 to D.", """
                addFigure(0, 0, 1) = 0; addFigure(0, 0, 0) = BAD_VALUE
                addFigure(0, 0, 100) = 1; addFigure(0, 0, 101) = BAD_VALUE
                position(0, 0, 0, 3) = 1; position(1, 0, 0, 3) = 100
                count(0) = 2

                setDistance(10) = 100
                addFigure(0, 0, 10) = 0; addFigure(0, 0, 11) = BAD_VALUE

                setDistance(200) = 100
                addFigure(0, 0, 200) = 0; addFigure(0, 0, 201) = BAD_VALUE
                """);
        s.says("""
                Positions in a plane have coordinates (x, y), integers, with (0, 0) on the straight line from the
                lamp perpendicular to the screen.""", """
                addFigure(0, 0, 1) = 0
                box(0, 0, 0) = 0/1; box(0, 0, 3) = 0/1; within(0, 0, 0) = 1
                addShift(1, 0, 0, 0, 99) = 0
                box(0, 1, 1) = 0/1; box(0, 1, 2) = 0/1; within(0, 0, 1) = 1
                addShift(2, 0, -1, 1, 0) = 1
                position(0, 0, 2, 0) = -1; position(0, 0, 2, 1) = 1
                within(0, 0, 2) = 0; within(1, 1, 2) = 1
                """);
        s.says("""
                The shadow of the position (x, y) in a plane p is the point (x * D / p, y * D / p) of the screen,
                as exact fractions.""", """
                addFigure(7, -4, 100) = 0 -- in the plane of the screen
                box(0, 0, 0) = 7/1; box(0, 0, 2) = -4/1

                addFigure(7, -4, 1) = 0 -- as close to the lamp as can be
                box(0, 0, 0) = 700/1; box(0, 0, 3) = -400/1

                addFigure(7, -4, 30) = 0
                box(0, 0, 1) = 70/3; box(0, 0, 2) = -40/3
                setDistance(200) = 100
                box(0, 0, 1) = 140/3; box(0, 0, 2) = -80/3

                setDistance(200) = 100 -- the farthest that a shadow can be
                addFigure(100, -100, 1) = 0
                addLimb(0, -1, 20, 7) = 0
                7 x addLimb(0, #, 20, 0) = #+1
                60 x addShift(#, 0, 50, -50, 0) = #
                position(0, 8, 99, 0) = 3260; position(0, 8, 99, 1) = -3260
                box(0, 99, 1) = 652000/1; box(0, 99, 2) = -652000/1
                """);
    }

    private static void figures(Sentences s) {
        s.says("Figures. There are up to 6 figures, numbered from 0.", """
                count(0) = 0
                position(0, 0, 0, 3) = NO_VALUE -- without figures there is no figure 0

                6 x addFigure(#, 0, 50) = #
                addFigure(6, 0, 50) = FULL
                count(0) = 6
                position(0, 0, 0, 0) = 0; position(5, 0, 0, 0) = 5
                position(6, 0, 0, 0) = NO_VALUE; position(-1, 0, 0, 0) = NO_VALUE
                """);
        s.says("""
                A figure has a base (x, y), a plane and up to 8 limbs, numbered from 0 in order of addition.""", """
                addFigure(11, -12, 13) = 0; addFigure(0, 0, 50) = 1
                position(0, 0, 0, 0) = 11; position(0, 0, 0, 1) = -12; position(0, 0, 0, 3) = 13
                count(3) = 0; position(0, 1, 0, 0) = NO_VALUE
                8 x addLimb(0, -1, 2, #) = #
                addLimb(0, -1, 2, 3) = FULL
                position(0, 1, 0, 2) = 0; position(0, 8, 0, 2) = 7; position(0, 9, 0, 2) = NO_VALUE
                8 x addLimb(1, -1, 2, 3) = # -- each figure has its own eight
                addLimb(1, 7, 2, 3) = FULL
                count(3) = 16

                6 x addFigure(0, 0, 50) = #
                8 x addLimb(0, -1, 1, 0) = #
                8 x addLimb(1, -1, 1, 0) = #
                8 x addLimb(2, -1, 1, 0) = #
                8 x addLimb(3, -1, 1, 0) = #
                8 x addLimb(4, -1, 1, 0) = #
                8 x addLimb(5, -1, 1, 0) = #
                count(3) = 48
                addLimb(5, -1, 1, 0) = FULL
                """);
        s.says("""
                The points of a figure are its base (point 0) and the ends of its limbs (point k + 1 for limb k).""",
                """
                addFigure(3, 4, 50) = 0
                position(0, 0, 0, 0) = 3; position(0, 1, 0, 0) = NO_VALUE; position(0, -1, 0, 0) = NO_VALUE
                addLimb(0, -1, 5, 0) = 0
                position(0, 0, 0, 0) = 3; position(0, 1, 0, 0) = 8; position(0, 2, 0, 0) = NO_VALUE
                7 x addLimb(0, -1, 20, 4) = #+1
                position(0, 8, 0, 0) = -17; position(0, 9, 0, 0) = NO_VALUE
                """);
    }

    private static void limbs(Sentences s) {
        s.says("""
                A limb has a parent, which is an earlier limb of the same figure, or -1 for the base; a length from
                1 to 20, and a direction from 0 to 7.""", """
                addFigure(0, 0, 50) = 0; addFigure(0, 0, 50) = 1
                addLimb(1, -1, 1, 0) = 0
                addLimb(0, 0, 1, 0) = NO_SUCH_LIMB -- neither the limb itself nor a limb of another figure
                addLimb(0, -2, 1, 0) = NO_SUCH_LIMB
                addLimb(0, -1, 1, 0) = 0
                addLimb(0, 1, 1, 0) = NO_SUCH_LIMB
                addLimb(0, 0, 0, 7) = BAD_VALUE; addLimb(0, 0, 21, 7) = BAD_VALUE
                addLimb(0, 0, 20, -1) = BAD_VALUE; addLimb(0, 0, 20, 8) = BAD_VALUE
                addLimb(0, 0, 20, 7) = 1
                position(0, 1, 0, 0) = 1; position(0, 1, 0, 1) = 0
                position(0, 2, 0, 0) = 21; position(0, 2, 0, 1) = -20
                count(3) = 3
                """);
        s.says("""
                The total direction of a limb is its direction plus the total direction of its parent (0 for the
                base), modulo 8.""", """
                addFigure(0, 0, 50) = 0
                addLimb(0, -1, 1, 7) = 0; addLimb(0, 0, 1, 1) = 1; addLimb(0, 0, 1, 0) = 2
                addLimb(0, 0, 1, 7) = 3; addLimb(0, 3, 1, 2) = 4
                position(0, 0, 0, 2) = 0; position(0, 1, 0, 2) = 7
                position(0, 2, 0, 2) = 0 -- 7 + 1
                position(0, 3, 0, 2) = 7 -- 7 + 0
                position(0, 4, 0, 2) = 6 -- 7 + 7
                position(0, 5, 0, 2) = 0 -- 6 + 2, not 14 + 2

                addFigure(5, 6, 50) = 0 -- eight steps around, back to the base
                8 x addLimb(0, #-1, 1, 7) = #
                position(0, 7, 0, 2) = 1; position(0, 8, 0, 2) = 0
                position(0, 8, 0, 0) = 5; position(0, 8, 0, 1) = 6
                """);
        s.says("""
                The directions 0 to 7 stand for the steps (1, 0), (1, 1), (0, 1), (-1, 1), (-1, 0), (-1, -1),
                (0, -1) and (1, -1).""", """
                addFigure(0, 0, 50) = 0
                8 x addLimb(0, -1, 1, #) = #
                position(0, 1, 0, 0) = 1; position(0, 1, 0, 1) = 0
                position(0, 2, 0, 0) = 1; position(0, 2, 0, 1) = 1
                position(0, 3, 0, 0) = 0; position(0, 3, 0, 1) = 1
                position(0, 4, 0, 0) = -1; position(0, 4, 0, 1) = 1
                position(0, 5, 0, 0) = -1; position(0, 5, 0, 1) = 0
                position(0, 6, 0, 0) = -1; position(0, 6, 0, 1) = -1
                position(0, 7, 0, 0) = 0; position(0, 7, 0, 1) = -1
                position(0, 8, 0, 0) = 1; position(0, 8, 0, 1) = -1
                """);
        s.says("""
                A limb leads from its start, which is the end of its parent or the base, to its end, which is its
                start plus its length times the step of its total direction.""", """
                addFigure(10, 20, 50) = 0
                addLimb(0, -1, 4, 1) = 0; addLimb(0, 0, 20, 3) = 1; addLimb(0, -1, 1, 6) = 2; addLimb(0, 1, 2, 5) = 3
                position(0, 1, 0, 0) = 14; position(0, 1, 0, 1) = 24
                position(0, 2, 0, 0) = -6; position(0, 2, 0, 1) = 24
                position(0, 3, 0, 0) = 10; position(0, 3, 0, 1) = 19
                position(0, 4, 0, 0) = -4; position(0, 4, 0, 1) = 26
                """);
    }

    private static void script(Sentences s) {
        s.says("The script. It is a list of up to 60 moves, numbered from 0.", """
                addFigure(0, 0, 50) = 0; addLimb(0, -1, 1, 0) = 0
                59 x addShift(0, 0, 1, 0, 0) = #
                addTurn(0, 0, 0, 1) = 59
                addTurn(0, 0, 0, 1) = FULL; addShift(0, 0, 1, 0, 0) = FULL
                count(1) = 60
                position(0, 0, 0, 0) = 59; position(0, 1, 0, 2) = 1
                removeMoves(60) = 0
                addShift(0, 0, 1, 0, 0) = 0

                addFigure(0, 0, 50) = 0; addFigure(0, 0, 50) = 1 -- one list for all figures and beats
                30 x addShift(#, 0, 1, 0, 0) = #
                30 x addShift(#, 1, 1, 0, 0) = #+30
                addShift(99, 0, 1, 0, 0) = FULL; addShift(99, 1, 1, 0, 0) = FULL
                """);
        s.says("A move belongs to a beat from 0 to 99 and to a rod.", """
                addFigure(0, 0, 50) = 0; addLimb(0, -1, 1, 0) = 0
                addTurn(0, 0, 0, 1) = 0; addTurn(99, 0, 0, 1) = 1
                addTurn(-1, 0, 0, 1) = BAD_VALUE; addTurn(100, 0, 0, 1) = BAD_VALUE
                addShift(0, 0, 1, 1, 1) = 2; addShift(99, 0, 1, 1, 1) = 3
                addShift(-1, 0, 1, 1, 1) = BAD_VALUE; addShift(100, 0, 1, 1, 1) = BAD_VALUE
                count(1) = 4
                position(0, 1, 0, 2) = 1; position(0, 1, 98, 2) = 1; position(0, 1, 99, 2) = 2
                position(0, 0, 0, 0) = 1; position(0, 0, 98, 0) = 1; position(0, 0, 99, 0) = 2
                activeRods(0, 0) = 2; activeRods(0, 1) = 0; activeRods(0, 98) = 0; activeRods(0, 99) = 2
                """);
        s.says("Each limb has a rod, and each figure has a base rod.", """
                addFigure(0, 0, 50) = 0; addFigure(0, 0, 50) = 1
                8 x addLimb(0, -1, 1, 0) = #
                8 x addTurn(6, 0, #, 1) = #
                activeRods(0, 6) = 8
                addShift(6, 0, 0, 0, 0) = 8; activeRods(0, 6) = 9
                addShift(6, 1, 0, 0, 0) = 9; activeRods(1, 6) = 1; activeRods(0, 6) = 9
                """);
        s.says("""
                There are two kinds of moves: a turn adds to the direction of a limb (modulo 8), so that it moves
                with all limbs below it; a shift adds to the base and to the plane of a figure.""", """
                addFigure(0, 0, 50) = 0
                addLimb(0, -1, 10, 7) = 0; addLimb(0, 0, 10, 0) = 1; addLimb(0, 1, 10, 0) = 2; addLimb(0, -1, 10, 0) = 3
                addTurn(1, 0, 0, 1) = 0; addTurn(2, 0, 0, -1) = 1; addTurn(3, 0, 0, -7) = 2
                addTurn(4, 0, 0, -7) = 3; addTurn(5, 0, 0, 7) = 4
                position(0, 1, 0, 2) = 7
                position(0, 1, 1, 2) = 0 -- 7 + 1
                position(0, 1, 2, 2) = 7 -- 0 - 1
                position(0, 1, 3, 2) = 0 -- 7 - 7
                position(0, 1, 4, 2) = 1 -- 0 - 7
                position(0, 1, 5, 2) = 0 -- 1 + 7
                position(0, 2, 2, 2) = 7; position(0, 2, 4, 2) = 1 -- a limb below it
                position(0, 3, 2, 2) = 7; position(0, 3, 4, 2) = 1 -- and one below that
                position(0, 3, 4, 0) = 30; position(0, 3, 4, 1) = 30
                position(0, 4, 2, 2) = 0; position(0, 4, 4, 2) = 0 -- not a limb beside it
                position(0, 0, 4, 0) = 0; position(0, 0, 4, 3) = 50

                addFigure(0, 0, 50) = 0; addLimb(0, -1, 1, 0) = 0; addLimb(0, 0, 1, 0) = 1
                59 x addTurn(0, 0, 0, -7) = #
                position(0, 1, 0, 2) = 3 -- -413 modulo 8
                addTurn(1, 0, 1, 7) = 59
                position(0, 2, 1, 2) = 2; position(0, 1, 1, 2) = 3

                addFigure(0, 0, 50) = 0; addLimb(0, -1, 1, 7) = 0
                60 x addTurn(0, 0, 0, 7) = #
                position(0, 1, 0, 2) = 3 -- 427 modulo 8

                addFigure(1, 2, 50) = 0; addFigure(1, 2, 50) = 1; addLimb(0, -1, 5, 1) = 0
                addShift(0, 0, -3, 4, -5) = 0
                position(0, 0, 0, 0) = -2; position(0, 0, 0, 1) = 6; position(0, 0, 0, 3) = 45
                position(0, 1, 0, 0) = 3; position(0, 1, 0, 1) = 11; position(0, 1, 0, 2) = 1
                position(1, 0, 0, 0) = 1; position(1, 0, 0, 1) = 2; position(1, 0, 0, 3) = 50
                """);
    }

    private static void state(Sentences s) {
        s.says("""
                The state at a beat results from the initial state (with D as it is now) by the moves whose beat is
                at most this beat, in ascending order of the beats, moves of the same beat in the order of the
                list.""", """
                addFigure(0, 0, 50) = 0
                addShift(10, 0, 1, 0, 0) = 0
                position(0, 0, 9, 0) = 0; position(0, 0, 10, 0) = 1; position(0, 0, 11, 0) = 1
                position(0, 0, 0, 0) = 0; position(0, 0, 99, 0) = 1

                addFigure(0, 0, 50) = 0 -- the later beat was added first
                addShift(9, 0, 0, 0, -100) = 0; addShift(3, 0, 0, 0, 100) = 1
                position(0, 0, 2, 3) = 50; position(0, 0, 3, 3) = 100; position(0, 0, 8, 3) = 100
                position(0, 0, 9, 3) = 1

                addFigure(0, 0, 50) = 0
                addShift(4, 0, 0, 0, 100) = 0; addShift(4, 0, 0, 0, -30) = 1
                position(0, 0, 4, 3) = 70

                addFigure(0, 0, 50) = 0 -- the same moves, in the other order of the list
                addShift(4, 0, 0, 0, -30) = 0; addShift(4, 0, 0, 0, 100) = 1
                position(0, 0, 4, 3) = 100

                addFigure(0, 0, 50) = 0 -- a beat in between, added last
                addShift(4, 0, 0, 0, 100) = 0; addShift(6, 0, 0, 0, 100) = 1; addShift(5, 0, 0, 0, -70) = 2
                addShift(4, 0, 0, 0, -90) = 3
                position(0, 0, 4, 3) = 10; position(0, 0, 5, 3) = 1; position(0, 0, 6, 3) = 100

                addFigure(0, 0, 50) = 0 -- D as it is now, not as it was when the move was added
                addShift(0, 0, 0, 0, 40) = 0; addShift(1, 0, 0, 0, -60) = 1
                position(0, 0, 0, 3) = 90; position(0, 0, 1, 3) = 30
                setDistance(70) = 100
                position(0, 0, 0, 3) = 70; position(0, 0, 1, 3) = 10
                setDistance(200) = 70
                position(0, 0, 0, 3) = 90; position(0, 0, 1, 3) = 30
                """);
        s.says("""
                The plane of a figure is kept within 1 to D: if it is greater than D at the beginning, it is D, and
                if a shift would lead out of this range, it becomes the nearest limit.""", """
                addFigure(0, 0, 80) = 0
                setDistance(81) = 100; position(0, 0, 0, 3) = 80
                setDistance(80) = 81; position(0, 0, 0, 3) = 80
                setDistance(79) = 80; position(0, 0, 0, 3) = 79; position(0, 0, 99, 3) = 79
                setDistance(10) = 79; position(0, 0, 0, 3) = 10
                addShift(0, 0, 0, 0, -9) = 0; position(0, 0, 0, 3) = 1 -- from D, not from 80
                addShift(0, 0, 0, 0, 1) = 1; position(0, 0, 0, 3) = 2
                setDistance(200) = 10; position(0, 0, 0, 3) = 72

                addFigure(0, 0, 50) = 0
                addShift(1, 0, 0, 0, -49) = 0; position(0, 0, 1, 3) = 1
                addShift(2, 0, 0, 0, -1) = 1; position(0, 0, 2, 3) = 1
                addShift(3, 0, 0, 0, 99) = 2; position(0, 0, 3, 3) = 100
                addShift(4, 0, 0, 0, 1) = 3; position(0, 0, 4, 3) = 100
                addShift(5, 0, 0, 0, -100) = 4; position(0, 0, 5, 3) = 1
                addShift(6, 0, 0, 0, 100) = 5; position(0, 0, 6, 3) = 100
                addShift(7, 0, 0, 0, -1) = 6; position(0, 0, 7, 3) = 99

                setDistance(200) = 100; addFigure(0, 0, 200) = 0
                addShift(0, 0, 0, 0, 100) = 0; position(0, 0, 0, 3) = 200
                addShift(1, 0, 0, 0, -100) = 1; position(0, 0, 1, 3) = 100
                addShift(2, 0, 0, 0, -99) = 2; position(0, 0, 2, 3) = 1
                """);
    }

    private static void shadows(Sentences s) {
        s.says("""
                Shadows. The shadow of a figure consists of the shadows of its points and, for each limb, the
                straight line segment between the shadows of its start and its end.""", """
                addFigure(50, 0, 100) = 0; addFigure(40, -5, 100) = 1
                addLimb(1, -1, 10, 2) = 0
                crossings(0, 1, 0) = 0 -- a base without limbs is a point, not a segment
                addLimb(0, -1, 20, 4) = 0
                crossings(0, 1, 0) = 1
                within(50, 5, 0) = 3; within(49, 5, 0) = 2 -- the base is part of the shadow

                addFigure(0, 0, 100) = 0; addFigure(10, 5, 100) = 1
                addLimb(0, -1, 10, 0) = 0; addLimb(0, 0, 10, 2) = 1
                addLimb(1, -1, 4, 4) = 0 -- from (10, 5), on the second limb, which starts at the end of the first
                crossings(0, 1, 0) = 1
                addShift(1, 1, -1, 0, 0) = 0
                crossings(0, 1, 1) = 0 -- none leads from the base to (10, 10)
                """);
        s.says("Its box is the smallest rectangle with sides parallel to the axes that contains it.", """
                addFigure(3, -4, 50) = 0 -- without limbs a point
                box(0, 0, 0) = 6/1; box(0, 0, 1) = 6/1; box(0, 0, 2) = -8/1; box(0, 0, 3) = -8/1
                box(0, 0, 4) = 0/1; box(0, 0, 5) = 0/1
                addLimb(0, -1, 10, 0) = 0 -- a line, with the base at its left
                box(0, 0, 0) = 6/1; box(0, 0, 1) = 26/1; box(0, 0, 4) = 20/1; box(0, 0, 5) = 0/1
                addLimb(0, 0, 5, 2) = 1 -- upwards from its end
                box(0, 0, 1) = 26/1; box(0, 0, 2) = -8/1; box(0, 0, 3) = 2/1; box(0, 0, 5) = 10/1
                addLimb(0, -1, 1, 5) = 2 -- below the base and left of it
                box(0, 0, 0) = 4/1; box(0, 0, 2) = -10/1; box(0, 0, 4) = 22/1; box(0, 0, 5) = 12/1
                addLimb(0, 2, 1, 4) = 3 -- back: total direction 5 + 4 = 1
                box(0, 0, 4) = 22/1; box(0, 0, 5) = 12/1
                """);
        s.says("Two boxes overlap in a rectangle (perhaps a line segment or a point) or not at all.", """
                addFigure(0, 0, 100) = 0; addLimb(0, -1, 10, 1) = 0
                addFigure(9, 8, 100) = 1; addLimb(1, -1, 10, 1) = 0
                overlap(0, 1, 0) = 2/1 -- a rectangle
                addShift(1, 1, 1, 0, 0) = 0; overlap(0, 1, 1) = 0/1 -- a line segment
                addShift(2, 1, 0, 2, 0) = 1; overlap(0, 1, 2) = 0/1 -- a point
                addShift(3, 1, 1, 0, 0) = 2; overlap(0, 1, 3) = 0/1 -- not at all, in x
                addShift(4, 1, 0, 1, 0) = 3; overlap(0, 1, 4) = 0/1 -- nor in y: no area of -1 times -1
                addShift(5, 1, -2, 0, 0) = 4; overlap(0, 1, 5) = 0/1 -- not at all, in y alone
                addShift(6, 1, 0, -2, 0) = 5; overlap(0, 1, 6) = 1/1 -- a rectangle again
                """);
    }

    private static void hands(Sentences s) {
        s.says("Hands. A rod is active in a beat if the script has a move with this beat for it.", """
                addFigure(0, 0, 50) = 0; addLimb(0, -1, 1, 0) = 0
                activeRods(0, 0) = 0; hands(0) = 0
                addTurn(5, 0, 0, 1) = 0
                activeRods(0, 4) = 0; activeRods(0, 5) = 1; activeRods(0, 6) = 0
                hands(4) = 0; hands(5) = 1; hands(6) = 0
                addTurn(5, 0, 0, -1) = 1 -- moves that undo each other are moves
                activeRods(0, 5) = 1; hands(5) = 1
                addShift(5, 0, 0, 0, 0) = 2 -- a move by nothing is a move
                activeRods(0, 5) = 2; hands(5) = 2
                removeMoves(3) = 0
                activeRods(0, 5) = 0; hands(5) = 0
                """);
        s.says("""
                A hand can hold one active rod, or two active rods of limbs of the same figure of which one is the
                parent of the other one.""", """
                addFigure(0, 0, 50) = 0; addLimb(0, -1, 1, 0) = 0; addLimb(0, 0, 1, 0) = 1; addLimb(0, 1, 1, 0) = 2
                addLimb(0, 0, 1, 0) = 3; addLimb(0, -1, 1, 0) = 4
                addTurn(1, 0, 0, 1) = 0; hands(1) = 1
                addTurn(1, 0, 1, 1) = 1; hands(1) = 1 -- parent and child
                addTurn(2, 0, 0, 1) = 2; addTurn(2, 0, 2, 1) = 3; hands(2) = 2 -- the child of a child
                addTurn(3, 0, 1, 1) = 4; addTurn(3, 0, 3, 1) = 5; hands(3) = 2 -- two children of one parent
                addTurn(4, 0, 0, 1) = 6; addTurn(4, 0, 4, 1) = 7; hands(4) = 2 -- two limbs of the base
                addTurn(5, 0, 0, 1) = 8; addShift(5, 0, 1, 0, 0) = 9; hands(5) = 2 -- a limb and the base
                addTurn(6, 0, 0, 1) = 10; addTurn(6, 0, 1, 1) = 11; addTurn(6, 0, 2, 1) = 12
                hands(6) = 2 -- three in a chain are too many for a hand

                addFigure(0, 0, 50) = 0; addFigure(0, 0, 50) = 1
                addLimb(0, -1, 1, 0) = 0; addLimb(0, 0, 1, 0) = 1; addLimb(1, -1, 1, 0) = 0; addLimb(1, 0, 1, 0) = 1
                addTurn(0, 0, 0, 1) = 0; addTurn(0, 1, 1, 1) = 1
                hands(0) = 2 -- the numbers of a parent and a child, but of two figures
                """);
        s.says("The number of hands for a beat is the least number with which all active rods are held.", """
                addFigure(0, 0, 50) = 0
                addLimb(0, -1, 1, 0) = 0; addLimb(0, 0, 1, 0) = 1; addLimb(0, 1, 1, 0) = 2; addLimb(0, 2, 1, 0) = 3
                4 x addTurn(0, 0, #, 1) = #
                hands(0) = 2 -- 0 with 1 and 2 with 3; with 1 and 2 in one hand it would be three

                addFigure(0, 0, 50) = 0
                addLimb(0, -1, 1, 0) = 0; addLimb(0, 0, 1, 0) = 1; addLimb(0, 0, 1, 0) = 2; addLimb(0, 1, 1, 0) = 3
                4 x addTurn(0, 0, #, 1) = #
                hands(0) = 2 -- 0 with 2 and 1 with 3

                addFigure(0, 0, 50) = 0
                addLimb(0, -1, 1, 0) = 0; addLimb(0, 0, 1, 0) = 1; addLimb(0, 0, 1, 0) = 2; addLimb(0, 2, 1, 0) = 3
                4 x addTurn(0, 0, #, 1) = #
                hands(0) = 2 -- 0 with 1 and 2 with 3

                addFigure(0, 0, 50) = 0
                8 x addLimb(0, #-1, 1, 0) = #
                8 x addTurn(0, 0, #, 1) = #
                addShift(0, 0, 0, 0, 0) = 8
                hands(0) = 5 -- a chain of eight, and the base
                """);
    }

    private static void scenes(Sentences s) {
        s.says("Scenes. There are up to 8 scenes, numbered from 0.", """
                count(2) = 0; bestScene(0) = NONE
                8 x addScene(#) = #
                addScene(8) = FULL
                count(2) = 8; bestScene(4) = 6; bestScene(7) = 7; bestScene(8) = NONE; bestCost() = 7
                clearScenes() = 8
                8 x addScene(63) = #
                addScene(0) = FULL
                bestCost() = 0
                """);
        s.says("""
                A scene is a set of figures (a bit set; bit k stands for figure k, also if there is no such figure
                yet).""", """
                count(0) = 0
                addScene(0) = 0; addScene(32) = 1; bestCost() = 1
                addScene(63) = 2; bestCost() = 6
                addFigure(0, 0, 50) = 0; bestCost() = 6
                addScene(64) = BAD_VALUE; addScene(-1) = BAD_VALUE
                """);
        s.says("The change from a scene to another one costs 1 for each figure that is in exactly one of both.", """
                addScene(0) = 0; addScene(63) = 1; bestCost() = 6

                addScene(63) = 0; addScene(0) = 1; bestCost() = 6

                addScene(42) = 0; addScene(42) = 1; bestCost() = 0

                addScene(21) = 0; addScene(42) = 1; bestCost() = 6

                addScene(7) = 0; addScene(14) = 1; bestCost() = 2
                """);
        s.says("An order of scenes contains each scene once, and begins with scene 0.", """
                addScene(5) = 0; bestScene(0) = 0; bestScene(1) = NONE; bestCost() = 0

                addScene(3) = 0; addScene(1) = 1; addScene(7) = 2 -- 1, 0, 2 would cost 2
                bestCost() = 3; bestScene(0) = 0; bestScene(1) = 1; bestScene(2) = 2

                addScene(0) = 0; addScene(63) = 1; addScene(0) = 2; addScene(63) = 3 -- equal scenes are two scenes
                bestCost() = 6
                bestScene(0) = 0; bestScene(1) = 2; bestScene(2) = 1; bestScene(3) = 3; bestScene(4) = NONE
                """);
        s.says("Its cost is the sum of the costs of the changes between neighbours.", """
                addScene(0) = 0; addScene(7) = 1; addScene(56) = 2 -- no change back to the first scene
                bestCost() = 9

                addScene(0) = 0; addScene(1) = 1; addScene(3) = 2; addScene(7) = 3; addScene(15) = 4; addScene(31) = 5
                addScene(63) = 6
                bestCost() = 6
                """);
        s.says("The best order has the least cost; of several, it is the lexicographically first one.", """
                addScene(0) = 0; addScene(1) = 1; addScene(2) = 2
                bestCost() = 3; bestScene(1) = 1; bestScene(2) = 2 -- 0, 2, 1 costs 3 too

                addScene(0) = 0; addScene(3) = 1; addScene(2) = 2
                bestCost() = 2; bestScene(1) = 2; bestScene(2) = 1 -- less cost goes before an earlier scene

                addScene(0) = 0; addScene(28) = 1; addScene(3) = 2; addScene(1) = 3
                bestCost() = 7 -- 0, 3, 2, 1 goes to the nearest scene first, and costs 7 too
                bestScene(1) = 2; bestScene(2) = 3; bestScene(3) = 1

                addScene(0) = 0; addScene(2) = 1; addScene(58) = 2; addScene(5) = 3
                bestCost() = 8 -- to begin with the nearest scene costs 10
                bestScene(1) = 3; bestScene(2) = 1; bestScene(3) = 2

                addScene(1) = 0; addScene(3) = 1; addScene(0) = 2; addScene(60) = 3
                bestCost() = 7 -- 0, 1, 2, 3; 1 and 2 are as near to 0
                bestScene(1) = 1; bestScene(2) = 2; bestScene(3) = 3

                8 x addScene(9) = #
                bestCost() = 0; bestScene(1) = 1; bestScene(4) = 4; bestScene(7) = 7
                """);
    }

    private static void fractions(Sentences s) {
        s.says("""
                Fractions are given by numerator and denominator in lowest terms, the denominator above 0;
                0 is 0/1.""", """
                addFigure(-6, 0, 40) = 0
                box(0, 0, 0) = -15/1 -- -600/40
                box(0, 0, 2) = 0/1; box(0, 0, 4) = 0/1
                addShift(1, 0, -1, 7, 0) = 0
                box(0, 1, 0) = -35/2; box(0, 1, 2) = 35/2
                addShift(2, 0, 0, 0, -39) = 1
                box(0, 2, 0) = -700/1 -- a denominator of 1
                addShift(3, 0, 0, 0, 98) = 2
                box(0, 3, 0) = -700/99

                addFigure(0, 0, 60) = 0; addLimb(0, -1, 6, 1) = 0
                overlap(0, 0, 0) = 100/1 -- 600/60 squared
                addFigure(50, 50, 60) = 1
                overlap(0, 1, 0) = 0/1; overlap(1, 1, 0) = 0/1

                setDistance(200) = 100 -- the greatest area: 160 * 200 squared
                addFigure(0, 0, 1) = 0
                addLimb(0, -1, 20, 1) = 0
                7 x addLimb(0, #, 20, 0) = #+1
                overlap(0, 0, 0) = 1024000000/1

                setDistance(200) = 100 -- a great denominator: from 200/197 to 32000/199 in x and in y
                addFigure(0, 0, 199) = 0; addFigure(1, 1, 197) = 1
                addLimb(0, -1, 20, 1) = 0
                7 x addLimb(0, #, 20, 0) = #+1
                addLimb(1, -1, 20, 1) = 0
                7 x addLimb(1, #, 20, 0) = #+1
                overlap(0, 1, 0) = 39240201640000/1536875209
                """);
    }

    private static void errors(Sentences s) {
        s.says("Errors. Errors are reported by the constants below.", """
                activeRods(0, 0) = -1
                addFigure(0, 0, 50) = 0; addTurn(0, 0, 0, 1) = -2
                count(4) = -3
                8 x addScene(1) = #
                addScene(1) = -4
                """);
        s.says("""
                Where several errors can apply, the order of the @return line is the order of the checks.""", """
                6 x addFigure(0, 0, 50) = #
                addFigure(101, 0, 50) = BAD_VALUE -- and FULL
                8 x addLimb(0, -1, 1, 0) = #
                60 x addTurn(0, 0, 0, 1) = #
                addLimb(6, 8, 0, 8) = NO_SUCH_FIGURE
                addLimb(0, 8, 0, 8) = NO_SUCH_LIMB
                addLimb(0, 7, 0, 7) = BAD_VALUE; addLimb(0, 7, 1, 8) = BAD_VALUE
                addLimb(0, 7, 1, 7) = FULL
                addTurn(100, 6, 8, 0) = NO_SUCH_FIGURE
                addTurn(100, 0, 8, 0) = NO_SUCH_LIMB
                addTurn(100, 0, 7, 1) = BAD_VALUE; addTurn(99, 0, 7, 0) = BAD_VALUE
                addTurn(99, 0, 7, 1) = FULL
                addShift(100, 6, 51, 51, 101) = NO_SUCH_FIGURE
                addShift(100, 0, 0, 0, 0) = BAD_VALUE; addShift(0, 0, 0, 0, 101) = BAD_VALUE
                addShift(0, 0, 0, 0, 0) = FULL
                8 x addScene(0) = #
                addScene(64) = BAD_VALUE; addScene(63) = FULL
                crossings(6, 6, 100) = NO_SUCH_FIGURE; crossings(0, 0, 100) = BAD_VALUE
                nextCrossing(6, 6, 100) = NO_SUCH_FIGURE; nextCrossing(0, 0, 100) = BAD_VALUE
                planeFor(6, 100, -1) = NO_SUCH_FIGURE; planeFor(0, 100, -1) = BAD_VALUE
                activeRods(6, 100) = NO_SUCH_FIGURE; activeRods(0, 100) = BAD_VALUE
                """);
        s.says("Methods that return a long return NO_VALUE for every error.", """
                addFigure(0, 0, 50) = 0
                position(1, 0, 0, 0) = NO_VALUE; position(0, 1, 0, 0) = NO_VALUE
                position(0, 0, 100, 0) = NO_VALUE; position(0, 0, 0, 4) = NO_VALUE
                box(1, 0, 0, 0) = NO_VALUE; box(0, 100, 0, 0) = NO_VALUE; box(0, 0, 6, 0) = NO_VALUE
                box(0, 0, 0, 2) = NO_VALUE
                overlap(1, 0, 0, 0) = NO_VALUE; overlap(0, 1, 0, 0) = NO_VALUE; overlap(0, 0, 100, 0) = NO_VALUE
                overlap(0, 0, 0, 2) = NO_VALUE
                """);
        s.says("NONE is returned only if no error applies.", """
                highest(100) = BAD_VALUE; highest(-1) = BAD_VALUE; highest(0) = NONE
                bestScene(-1) = BAD_VALUE; bestScene(0) = NONE
                busiestBeat() = NONE
                addFigure(0, 0, 50) = 0; addFigure(0, 0, 50) = 1
                nextCrossing(0, 1, 100) = BAD_VALUE; nextCrossing(0, 0, 0) = BAD_VALUE
                nextCrossing(0, 2, 0) = NO_SUCH_FIGURE; nextCrossing(0, 1, 0) = NONE
                planeFor(0, 100, 1) = BAD_VALUE; planeFor(0, 0, 100001) = BAD_VALUE
                planeFor(2, 0, 1) = NO_SUCH_FIGURE; planeFor(0, 0, 1) = NONE
                """);
        s.says("A call that reports an error changes nothing.", """
                addFigure(1, 2, 50) = 0; addFigure(3, 4, 60) = 1
                addLimb(0, -1, 10, 2) = 0; addLimb(1, -1, 10, 4) = 0
                addShift(4, 0, 1, 1, 1) = 0; addTurn(50, 1, 0, 3) = 1
                addScene(5) = 0; addScene(9) = 1
                setDistance(9) = BAD_VALUE
                addFigure(5, 5, 101) = BAD_VALUE; addFigure(-101, 5, 5) = BAD_VALUE
                addLimb(2, -1, 5, 5) = NO_SUCH_FIGURE; addLimb(0, 1, 5, 5) = NO_SUCH_LIMB
                addLimb(0, 0, 21, 5) = BAD_VALUE; addLimb(0, 0, 5, 8) = BAD_VALUE
                addTurn(4, 2, 0, 1) = NO_SUCH_FIGURE; addTurn(4, 0, 1, 1) = NO_SUCH_LIMB
                addTurn(100, 0, 0, 1) = BAD_VALUE; addTurn(4, 0, 0, 8) = BAD_VALUE
                addShift(4, 2, 1, 1, 1) = NO_SUCH_FIGURE; addShift(4, 0, 1, 51, 1) = BAD_VALUE
                addShift(4, 0, 1, 1, 101) = BAD_VALUE
                removeMoves(3) = BAD_VALUE; removeMoves(-1) = BAD_VALUE
                addScene(64) = BAD_VALUE
                position(0, 2, 4, 0) = NO_VALUE; box(0, 4, 6, 0) = NO_VALUE; overlap(0, 2, 4, 0) = NO_VALUE
                crossings(0, 0, 4) = BAD_VALUE; nextCrossing(0, 1, 100) = BAD_VALUE; within(-1, 0, 4) = BAD_VALUE
                highest(100) = BAD_VALUE; planeFor(0, 4, -1) = BAD_VALUE; hands(100) = BAD_VALUE
                activeRods(0, -1) = BAD_VALUE; bestScene(-1) = BAD_VALUE; count(4) = BAD_VALUE
                setDistance(100) = 100
                count(0) = 2; count(1) = 2; count(2) = 2; count(3) = 2
                position(0, 0, 4, 0) = 2; position(0, 0, 4, 3) = 51; position(1, 1, 50, 2) = 7
                bestCost() = 2; bestScene(1) = 1; hands(4) = 1; hands(50) = 1

                6 x addFigure(#, 0, 50) = # -- and where everything is full
                8 x addLimb(5, -1, 3, #) = #
                60 x addShift(7, 5, 1, 0, 0) = #
                8 x addScene(#) = #
                addFigure(9, 9, 9) = FULL; addLimb(5, -1, 9, 1) = FULL; addTurn(7, 5, 0, 1) = FULL
                addShift(7, 4, 1, 1, 1) = FULL; addScene(56) = FULL
                count(0) = 6; count(1) = 60; count(2) = 8; count(3) = 8
                position(5, 0, 7, 0) = 65; position(4, 0, 7, 0) = 4; position(5, 1, 7, 2) = 0
                hands(7) = 1; bestCost() = 7
                """);
    }

    private static void constants(Sentences s) {
        s.says("`NO_SUCH_FIGURE = -1`: There is no figure with this number.", """
                addLimb(0, -1, 1, 0) = -1; addTurn(0, 0, 0, 1) = -1; addShift(0, 0, 0, 0, 0) = -1
                crossings(0, 1, 0) = -1; nextCrossing(0, 1, 0) = -1; planeFor(0, 0, 0) = -1; activeRods(0, 0) = -1
                """);
        s.says("`NO_SUCH_LIMB = -2`: The figure has no such limb.", """
                addFigure(0, 0, 50) = 0
                addLimb(0, 0, 1, 0) = -2; addTurn(0, 0, 0, 1) = -2
                """);
        s.says("`BAD_VALUE = -3`: Another argument is out of range.", """
                setDistance(9) = -3; addFigure(0, 0, 0) = -3; count(4) = -3; removeMoves(1) = -3
                within(0, 0, 100) = -3; highest(100) = -3; hands(100) = -3; addScene(64) = -3; bestScene(-1) = -3
                """);
        s.says("`FULL = -4`: There is no more room.", """
                6 x addFigure(0, 0, 50) = #
                addFigure(0, 0, 50) = -4
                """);
        s.says("`NONE = -5`: There is no such thing; not an error.", """
                highest(0) = -5; busiestBeat() = -5; bestScene(0) = -5
                """);
        s.says("`NO_VALUE = Long.MIN_VALUE`: The error value of methods that return a long.", """
                position(0, 0, 0, 0) = -9223372036854775808
                box(0, 0, 0, 0) = -9223372036854775808
                overlap(0, 0, 0, 0) = -9223372036854775808
                """);
    }
}

/**
 * A planner for a shadow theatre: jointed figures between a lamp and a screen, a script of moves,
 * exact measures of the shadows, the hands that a beat needs, and the best order of scenes.
 */
public final class JointedShadows {
    public static final int NO_SUCH_FIGURE = -1;
    public static final int NO_SUCH_LIMB = -2;
    public static final int BAD_VALUE = -3;
    public static final int FULL = -4;
    public static final int NONE = -5;
    public static final long NO_VALUE = Long.MIN_VALUE;

    private static final int MOST_FIGURES = 6;
    private static final int MOST_LIMBS = 8;
    private static final int MOST_MOVES = 60;
    private static final int MOST_SCENES = 8;
    private static final int LAST_BEAT = 99;
    private static final int DIRECTIONS = 8;

    /** Stands for the base where a limb's number could stand: as a parent, and as a rod. */
    private static final int BASE = -1;

    /** Euclid's steps for two long numbers stay below this. */
    private static final int MOST_DIVISIONS = 100;

    private static final int[] STEP_X = {1, 1, 0, -1, -1, -1, 0, 1};
    private static final int[] STEP_Y = {0, 1, 1, 1, 0, -1, -1, -1};

    private int screenDistance = 100;
    private int figureCount = 0;
    private final Figure[] figures = new Figure[MOST_FIGURES];
    private final Script script = new Script();
    private final Scenes scenes = new Scenes();

    // Made once and laid anew by each call, so that questions make no objects.
    private final Pose firstPose = new Pose();
    private final Pose secondPose = new Pose();
    private final Segment firstSegment = new Segment();
    private final Segment secondSegment = new Segment();

    public JointedShadows() {
    }

    // ---- stage and figures

    public int setDistance(int distance) {
        if (!inRange(distance, 10, 200)) {
            return BAD_VALUE;
        }
        int previous = screenDistance;
        screenDistance = distance;
        return previous;
    }

    public int addFigure(int x, int y, int plane) {
        if (!inRange(x, -100, 100) || !inRange(y, -100, 100) || !inRange(plane, 1, screenDistance)) {
            return BAD_VALUE;
        }
        if (figureCount >= MOST_FIGURES) {
            return FULL;
        }
        int number = figureCount;
        figures[number] = new Figure(number, x, y, plane);
        figureCount++;
        return number;
    }

    public int addLimb(int figure, int parent, int length, int direction) {
        Figure owner = figureAt(figure);
        if (owner == null) {
            return NO_SUCH_FIGURE;
        }
        if (parent != BASE && !owner.hasLimb(parent)) {
            return NO_SUCH_LIMB;
        }
        if (!inRange(length, 1, 20) || !inRange(direction, 0, DIRECTIONS - 1)) {
            return BAD_VALUE;
        }
        return owner.grow(parent, length, direction);
    }

    public int count(int what) {
        switch (what) {
            case 0:
                return figureCount;
            case 1:
                return script.size;
            case 2:
                return scenes.size;
            case 3:
                return limbsOfAll();
            default:
                return BAD_VALUE;
        }
    }

    // ---- the script

    public int addTurn(int beat, int figure, int limb, int eighths) {
        Figure owner = figureAt(figure);
        if (owner == null) {
            return NO_SUCH_FIGURE;
        }
        if (!owner.hasLimb(limb)) {
            return NO_SUCH_LIMB;
        }
        if (!isBeat(beat) || !inRange(eighths, -7, 7) || eighths == 0) {
            return BAD_VALUE;
        }
        Move turn = script.newMove(beat, figure, limb);
        if (turn == null) {
            return FULL;
        }
        turn.eighths = eighths;
        return turn.number;
    }

    public int addShift(int beat, int figure, int dx, int dy, int dplane) {
        if (figureAt(figure) == null) {
            return NO_SUCH_FIGURE;
        }
        if (!isBeat(beat) || !inRange(dx, -50, 50) || !inRange(dy, -50, 50) || !inRange(dplane, -100, 100)) {
            return BAD_VALUE;
        }
        Move shift = script.newMove(beat, figure, BASE);
        if (shift == null) {
            return FULL;
        }
        shift.dx = dx;
        shift.dy = dy;
        shift.dplane = dplane;
        return shift.number;
    }

    public int removeMoves(int n) {
        if (!inRange(n, 0, script.size)) {
            return BAD_VALUE;
        }
        script.keepFirst(script.size - n);
        return script.size;
    }

    public long position(int figure, int point, int beat, int what) {
        Figure shown = figureAt(figure);
        if (shown == null || !inRange(point, 0, shown.limbs) || !isBeat(beat) || !inRange(what, 0, 3)) {
            return NO_VALUE;
        }
        firstPose.take(shown, script, beat, screenDistance);
        switch (what) {
            case 0:
                return firstPose.x[point];
            case 1:
                return firstPose.y[point];
            case 2:
                return firstPose.total[point];
            default:
                return firstPose.plane;
        }
    }

    // ---- shadows

    public long box(int figure, int beat, int what, int part) {
        Figure shown = figureAt(figure);
        if (shown == null || !isBeat(beat) || !inRange(what, 0, 5) || !inRange(part, 0, 1)) {
            return NO_VALUE;
        }
        firstPose.take(shown, script, beat, screenDistance);
        long numerator = (long) firstPose.measure(what) * screenDistance;
        return partOfFraction(numerator, firstPose.plane, part);
    }

    public long overlap(int a, int b, int beat, int part) {
        Figure first = figureAt(a);
        Figure second = figureAt(b);
        if (first == null || second == null || !isBeat(beat) || !inRange(part, 0, 1)) {
            return NO_VALUE;
        }
        takePoses(first, second, beat);
        long p = firstPose.plane;
        long q = secondPose.plane;
        // Both boxes times p * q / D are integers; the area is brought back to the screen's measure below.
        long width = Math.min(firstPose.right * q, secondPose.right * p)
                - Math.max(firstPose.left * q, secondPose.left * p);
        long height = Math.min(firstPose.top * q, secondPose.top * p)
                - Math.max(firstPose.bottom * q, secondPose.bottom * p);
        long scaledArea = width <= 0 || height <= 0 ? 0 : width * height;
        return partOfFraction(scaledArea * screenDistance * screenDistance, p * q * p * q, part);
    }

    public int crossings(int a, int b, int beat) {
        Figure first = figureAt(a);
        Figure second = figureAt(b);
        if (first == null || second == null) {
            return NO_SUCH_FIGURE;
        }
        if (a == b || !isBeat(beat)) {
            return BAD_VALUE;
        }
        return crossingLimbs(first, second, beat);
    }

    public int nextCrossing(int a, int b, int beat) {
        Figure first = figureAt(a);
        Figure second = figureAt(b);
        if (first == null || second == null) {
            return NO_SUCH_FIGURE;
        }
        if (a == b || !isBeat(beat)) {
            return BAD_VALUE;
        }
        for (int later = beat; later <= LAST_BEAT; later++) {
            // In a beat without moves everything stands as in the beat before it.
            boolean isNew = later == beat || script.hasMoveIn(later);
            if (isNew && crossingLimbs(first, second, later) > 0) {
                return later;
            }
        }
        return NONE;
    }

    public int within(int x, int y, int beat) {
        if (!inRange(x, 0, 20000) || !inRange(y, 0, 20000) || !isBeat(beat)) {
            return BAD_VALUE;
        }
        int inside = 0;
        for (Figure figure : figures) {
            if (figure != null && firstPose.take(figure, script, beat, screenDistance).isWithin(x, y, screenDistance)) {
                inside |= 1 << figure.number;
            }
        }
        return inside;
    }

    public int highest(int beat) {
        if (!isBeat(beat)) {
            return BAD_VALUE;
        }
        Figure found = null;
        for (Figure figure : figures) {
            if (figure != null && (found == null || isHigher(figure, found, beat))) {
                found = figure;
            }
        }
        return found == null ? NONE : found.number;
    }

    public int planeFor(int figure, int beat, int height) {
        Figure shown = figureAt(figure);
        if (shown == null) {
            return NO_SUCH_FIGURE;
        }
        if (!isBeat(beat) || !inRange(height, 0, 100000)) {
            return BAD_VALUE;
        }
        if (height == 0) {
            return screenDistance;
        }
        firstPose.take(shown, script, beat, screenDistance);
        int plane = Math.min(firstPose.height() * screenDistance / height, screenDistance);
        return plane >= 1 ? plane : NONE;
    }

    // ---- hands

    public int hands(int beat) {
        return isBeat(beat) ? handsOfAll(beat) : BAD_VALUE;
    }

    public int busiestBeat() {
        int busiest = NONE;
        int most = 0;
        for (int beat = 0; beat <= LAST_BEAT; beat++) {
            int needed = script.hasMoveIn(beat) ? handsOfAll(beat) : 0;
            if (needed > most) {
                busiest = beat;
                most = needed;
            }
        }
        return busiest;
    }

    public int activeRods(int figure, int beat) {
        if (figureAt(figure) == null) {
            return NO_SUCH_FIGURE;
        }
        return isBeat(beat) ? Integer.bitCount(script.rodsMoved(figure, beat)) : BAD_VALUE;
    }

    // ---- scenes

    public int addScene(int figures) {
        if (!inRange(figures, 0, (1 << MOST_FIGURES) - 1)) {
            return BAD_VALUE;
        }
        return scenes.append(figures);
    }

    public int clearScenes() {
        int before = scenes.size;
        scenes.clear();
        return before;
    }

    public int bestScene(int place) {
        if (place < 0) {
            return BAD_VALUE;
        }
        return place < scenes.size ? scenes.sceneAt(place) : NONE;
    }

    public int bestCost() {
        return scenes.leastCost();
    }

    // ---- what the methods share

    private static boolean inRange(int value, int least, int greatest) {
        return least <= value && value <= greatest;
    }

    private static boolean isBeat(int beat) {
        return inRange(beat, 0, LAST_BEAT);
    }

    /** The figure with this number, or null if there is none. */
    private Figure figureAt(int number) {
        return inRange(number, 0, figureCount - 1) ? figures[number] : null;
    }

    private int limbsOfAll() {
        int limbs = 0;
        for (Figure figure : figures) {
            limbs += figure == null ? 0 : figure.limbs;
        }
        return limbs;
    }

    private int handsOfAll(int beat) {
        int needed = 0;
        for (Figure figure : figures) {
            needed += figure == null ? 0 : figure.handsFor(script.rodsMoved(figure.number, beat));
        }
        return needed;
    }

    /** Heights are top minus bottom times D / p; both sides are multiplied by the planes and divided by D. */
    private boolean isHigher(Figure first, Figure second, int beat) {
        takePoses(first, second, beat);
        return firstPose.height() * secondPose.plane > secondPose.height() * firstPose.plane;
    }

    private void takePoses(Figure first, Figure second, int beat) {
        firstPose.take(first, script, beat, screenDistance);
        secondPose.take(second, script, beat, screenDistance);
    }

    private int crossingLimbs(Figure first, Figure second, int beat) {
        takePoses(first, second, beat);
        int pairs = 0;
        for (int limb = 0; limb < first.limbs; limb++) {
            firstSegment.lay(firstPose, first.start(limb), limb + 1, secondPose.plane);
            for (int other = 0; other < second.limbs; other++) {
                secondSegment.lay(secondPose, second.start(other), other + 1, firstPose.plane);
                if (firstSegment.meets(secondSegment)) {
                    pairs++;
                }
            }
        }
        return pairs;
    }

    /** Part 0 is the numerator in lowest terms, part 1 the denominator; the given denominator is above 0. */
    private static long partOfFraction(long numerator, long denominator, int part) {
        long divisor = commonDivisor(Math.abs(numerator), denominator);
        return (part == 0 ? numerator : denominator) / divisor;
    }

    /** The greatest common divisor of two numbers from 0 on; at least 1, so that it can divide. */
    private static long commonDivisor(long one, long other) {
        long greater = one;
        long smaller = other;
        for (int step = 0; step < MOST_DIVISIONS && smaller != 0; step++) {
            long rest = greater % smaller;
            greater = smaller;
            smaller = rest;
        }
        return Math.max(1, greater);
    }

    /** A figure as it was added, before any move. */
    private static final class Figure {
        final int number;
        final int x;
        final int y;
        final int plane;
        final int[] parent = new int[MOST_LIMBS];
        final int[] length = new int[MOST_LIMBS];
        final int[] direction = new int[MOST_LIMBS];
        int limbs = 0;

        Figure(int number, int x, int y, int plane) {
            this.number = number;
            this.x = x;
            this.y = y;
            this.plane = plane;
        }

        boolean hasLimb(int limb) {
            return inRange(limb, 0, limbs - 1);
        }

        /** Adds a limb and gives its number, or FULL. */
        int grow(int limbParent, int limbLength, int limbDirection) {
            if (limbs >= MOST_LIMBS) {
                return FULL;
            }
            int limb = limbs;
            parent[limb] = limbParent;
            length[limb] = limbLength;
            direction[limb] = limbDirection;
            limbs++;
            return limb;
        }

        /** The point at which a limb starts: since the base is point 0, its parent BASE leads there too. */
        int start(int limb) {
            return parent[limb] + 1;
        }

        /**
         * The hands that hold these rods (bits as in Script.rodsMoved). Children have higher numbers than
         * their parents, so that each limb is looked at when nothing below it can be paired any more; to pair
         * it with its parent is then never worse than to leave the parent to another limb.
         */
        int handsFor(int rods) {
            int needed = Integer.bitCount(rods);
            // A hand that holds the base rod holds nothing else.
            int unpaired = rods & ~Script.rodBit(BASE);
            for (int limb = limbs - 1; limb >= 0; limb--) {
                int pair = Script.rodBit(limb) | Script.rodBit(parent[limb]);
                if ((unpaired & pair) == pair) {
                    unpaired &= ~pair;
                    needed--;
                }
            }
            return needed;
        }
    }

    /** A turn of a limb, or a shift of the base; what does not belong to its kind is 0. */
    private static final class Move {
        final int number;
        final int beat;
        final int figure;
        final int limb;
        int eighths = 0;
        int dx = 0;
        int dy = 0;
        int dplane = 0;

        Move(int number, int beat, int figure, int limb) {
            this.number = number;
            this.beat = beat;
            this.figure = figure;
            this.limb = limb;
        }
    }

    /** The moves, kept in the order in which they act: by beat, and by number within a beat; then null. */
    private static final class Script {
        final Move[] moves = new Move[MOST_MOVES];
        int size = 0;

        /** Adds a move with the next number, which changes nothing yet, or gives null if there is no more room. */
        Move newMove(int beat, int figure, int limb) {
            if (size >= MOST_MOVES) {
                return null;
            }
            Move move = new Move(size, beat, figure, limb);
            int place = size;
            while (place > 0 && isAfter(moves[place - 1], beat)) {
                moves[place] = moves[place - 1];
                place--;
            }
            moves[place] = move;
            size++;
            return move;
        }

        private static boolean isAfter(Move move, int beat) {
            return move != null && move.beat > beat;
        }

        /** Removes all moves but those with numbers below the given one. */
        void keepFirst(int numbers) {
            int kept = 0;
            for (int i = 0; i < size; i++) {
                Move move = moves[i];
                moves[i] = null;
                if (move != null && move.number < numbers) {
                    moves[kept] = move;
                    kept++;
                }
            }
            size = kept;
        }

        boolean hasMoveIn(int beat) {
            for (Move move : moves) {
                if (move != null && move.beat == beat) {
                    return true;
                }
            }
            return false;
        }

        /** The active rods of a figure in a beat, as a bit set of rodBit. */
        int rodsMoved(int figure, int beat) {
            int rods = 0;
            for (Move move : moves) {
                if (move != null && move.beat == beat && move.figure == figure) {
                    rods |= rodBit(move.limb);
                }
            }
            return rods;
        }

        static int rodBit(int limb) {
            return 1 << (limb + 1);
        }
    }

    /** A figure as it stands at a beat: its plane, its points in this plane, and the box around them. */
    private static final class Pose {
        final int[] direction = new int[MOST_LIMBS];
        final int[] x = new int[MOST_LIMBS + 1];
        final int[] y = new int[MOST_LIMBS + 1];
        final int[] total = new int[MOST_LIMBS + 1];
        int plane = 1;
        int left = 0;
        int right = 0;
        int bottom = 0;
        int top = 0;

        Pose take(Figure figure, Script script, int beat, int distance) {
            stand(figure, distance);
            for (Move move : script.moves) {
                if (move == null || move.beat > beat) {
                    break;
                }
                if (move.figure == figure.number) {
                    follow(move, distance);
                }
            }
            layPoints(figure);
            layBox(figure.limbs);
            return this;
        }

        private void stand(Figure figure, int distance) {
            x[0] = figure.x;
            y[0] = figure.y;
            total[0] = 0;
            plane = Math.min(figure.plane, distance);
            System.arraycopy(figure.direction, 0, direction, 0, figure.limbs);
        }

        private void follow(Move move, int distance) {
            if (move.limb == BASE) {
                x[0] += move.dx;
                y[0] += move.dy;
                plane = Math.max(1, Math.min(plane + move.dplane, distance));
            } else {
                direction[move.limb] += move.eighths;
            }
        }

        private void layPoints(Figure figure) {
            for (int limb = 0; limb < figure.limbs; limb++) {
                int start = figure.start(limb);
                int end = limb + 1;
                int way = Math.floorMod(total[start] + direction[limb], DIRECTIONS);
                total[end] = way;
                x[end] = x[start] + figure.length[limb] * STEP_X[way];
                y[end] = y[start] + figure.length[limb] * STEP_Y[way];
            }
        }

        private void layBox(int lastPoint) {
            left = x[0];
            right = x[0];
            bottom = y[0];
            top = y[0];
            for (int point = 1; point <= lastPoint; point++) {
                left = Math.min(left, x[point]);
                right = Math.max(right, x[point]);
                bottom = Math.min(bottom, y[point]);
                top = Math.max(top, y[point]);
            }
        }

        int height() {
            return top - bottom;
        }

        /** A measure of the box in the figure's own plane, numbered as in box(). */
        int measure(int what) {
            switch (what) {
                case 0:
                    return left;
                case 1:
                    return right;
                case 2:
                    return bottom;
                case 3:
                    return top;
                case 4:
                    return right - left;
                default:
                    return height();
            }
        }

        /** Whether the shadow stays within this half width and half height of the screen. */
        boolean isWithin(int halfWidth, int halfHeight, int distance) {
            int farX = Math.max(-left, right);
            int farY = Math.max(-bottom, top);
            return farX * distance <= halfWidth * plane && farY * distance <= halfHeight * plane;
        }
    }

    /** The shadow of a limb, enlarged so that its ends are integers. */
    private static final class Segment {
        long startX = 0;
        long startY = 0;
        long endX = 0;
        long endY = 0;

        /**
         * The shadow's coordinates are x * D / p. To compare two figures all of them are multiplied by both
         * planes and divided by D: what remains is x times the plane of the other figure.
         */
        void lay(Pose pose, int start, int end, int otherPlane) {
            startX = (long) pose.x[start] * otherPlane;
            startY = (long) pose.y[start] * otherPlane;
            endX = (long) pose.x[end] * otherPlane;
            endY = (long) pose.y[end] * otherPlane;
        }

        /**
         * Two segments have a common point if each one meets the other's line; the boxes decide where both lie
         * on the same line.
         */
        boolean meets(Segment other) {
            return rangesMeet(startX, endX, other.startX, other.endX)
                    && rangesMeet(startY, endY, other.startY, other.endY)
                    && lineMeets(other)
                    && other.lineMeets(this);
        }

        private static boolean rangesMeet(long a, long b, long c, long d) {
            return Math.max(a, b) >= Math.min(c, d) && Math.max(c, d) >= Math.min(a, b);
        }

        /** Whether the ends of the other segment are not both strictly on one side of this one's line. */
        private boolean lineMeets(Segment other) {
            return side(other.startX, other.startY) * side(other.endX, other.endY) <= 0;
        }

        private int side(long x, long y) {
            long turn = (endX - startX) * (y - startY) - (endY - startY) * (x - startX);
            return Long.compare(turn, 0);
        }
    }

    /** The scenes and their best order. */
    private static final class Scenes {
        final int[] cast = new int[MOST_SCENES];
        int size = 0;

        /**
         * Under set * MOST_SCENES + last: the least cost to play all scenes of the set after the scene last,
         * which is not in it. Bit k of a set stands for scene k + 1, as scene 0 is always the first.
         */
        private final int[] leastAfter = new int[MOST_SCENES << (MOST_SCENES - 1)];

        /** Adds a scene and gives its number, or FULL. */
        int append(int figures) {
            if (size >= MOST_SCENES) {
                return FULL;
            }
            int scene = size;
            cast[scene] = figures;
            size++;
            fillLeast();
            return scene;
        }

        void clear() {
            size = 0;
        }

        int leastCost() {
            return least(allButFirst(), 0);
        }

        /** The scene at a place of the best order; the place must be below the number of scenes. */
        int sceneAt(int place) {
            int scene = 0;
            int set = allButFirst();
            for (int i = 0; i < place; i++) {
                scene = firstBestNext(set, scene);
                set &= ~sceneBit(scene);
            }
            return scene;
        }

        /** The empty set's row is 0 from the beginning; a set without one of its scenes has a lower number. */
        private void fillLeast() {
            int all = allButFirst();
            for (int set = 1; set <= all; set++) {
                for (int last = 0; last < size; last++) {
                    if (!isIn(set, last)) {
                        leastAfter[set * MOST_SCENES + last] = costVia(set, last, firstBestNext(set, last));
                    }
                }
            }
        }

        /** The first of the scenes in a set, which is not empty, with which the order can go on at the least cost. */
        private int firstBestNext(int set, int last) {
            int best = last;
            int bestVia = Integer.MAX_VALUE;
            for (int next = 1; next < size; next++) {
                int via = isIn(set, next) ? costVia(set, last, next) : Integer.MAX_VALUE;
                if (via < bestVia) {
                    best = next;
                    bestVia = via;
                }
            }
            return best;
        }

        private int costVia(int set, int last, int next) {
            return Integer.bitCount(cast[last] ^ cast[next]) + least(set & ~sceneBit(next), next);
        }

        private int least(int set, int last) {
            return leastAfter[set * MOST_SCENES + last];
        }

        /** Empty also if there are no scenes. */
        private int allButFirst() {
            return ((1 << size) - 1) >> 1;
        }

        private static boolean isIn(int set, int scene) {
            return (set & sceneBit(scene)) != 0;
        }

        /** Scene 0 has no bit. */
        private static int sceneBit(int scene) {
            return (1 << scene) >> 1;
        }
    }
}

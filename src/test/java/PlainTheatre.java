import java.util.ArrayList;
import java.util.List;

/**
 * The document's sentences once more, as plainly and slowly as they can be written, with exact fractions and
 * by trying everything: what JointedShadows answers is compared with it.
 */
final class PlainTheatre {
    private static final int[][] STEPS = {{1, 0}, {1, 1}, {0, 1}, {-1, 1}, {-1, 0}, {-1, -1}, {0, -1}, {1, -1}};
    private static final long NO_VALUE = Long.MIN_VALUE;

    /** {x, y, plane}, and limbs {parent, length, direction}. */
    private record Figure(int[] base, List<int[]> limbs) {
    }

    /** A turn has a limb from 0 on and one change; a shift has limb -1 and three. */
    private record Move(int beat, int figure, int limb, int[] changes) {
    }

    /** Rows {x, y, total direction} by point. */
    private record State(int plane, int[][] points) {
    }

    private int distance = 100;
    private final List<Figure> figures = new ArrayList<>();
    private final List<Move> script = new ArrayList<>();
    private final List<Integer> scenes = new ArrayList<>();

    long setDistance(int d) {
        if (d < 10 || d > 200) {
            return -3;
        }
        int before = distance;
        distance = d;
        return before;
    }

    long addFigure(int x, int y, int plane) {
        if (out(x, -100, 100) || out(y, -100, 100) || out(plane, 1, distance)) {
            return -3;
        }
        if (figures.size() == 6) {
            return -4;
        }
        figures.add(new Figure(new int[] {x, y, plane}, new ArrayList<>()));
        return figures.size() - 1;
    }

    long addLimb(int figure, int parent, int length, int direction) {
        if (noFigure(figure)) {
            return -1;
        }
        List<int[]> limbs = figures.get(figure).limbs();
        if (out(parent, -1, limbs.size() - 1)) {
            return -2;
        }
        if (out(length, 1, 20) || out(direction, 0, 7)) {
            return -3;
        }
        if (limbs.size() == 8) {
            return -4;
        }
        limbs.add(new int[] {parent, length, direction});
        return limbs.size() - 1;
    }

    long count(int what) {
        int limbs = 0;
        for (Figure f : figures) {
            limbs += f.limbs().size();
        }
        int[] counts = {figures.size(), script.size(), scenes.size(), limbs};
        return out(what, 0, 3) ? -3 : counts[what];
    }

    long addTurn(int beat, int figure, int limb, int eighths) {
        if (noFigure(figure)) {
            return -1;
        }
        if (out(limb, 0, figures.get(figure).limbs().size() - 1)) {
            return -2;
        }
        if (noBeat(beat) || out(eighths, -7, 7) || eighths == 0) {
            return -3;
        }
        return addMove(new Move(beat, figure, limb, new int[] {eighths}));
    }

    long addShift(int beat, int figure, int dx, int dy, int dplane) {
        if (noFigure(figure)) {
            return -1;
        }
        if (noBeat(beat) || out(dx, -50, 50) || out(dy, -50, 50) || out(dplane, -100, 100)) {
            return -3;
        }
        return addMove(new Move(beat, figure, -1, new int[] {dx, dy, dplane}));
    }

    private long addMove(Move move) {
        if (script.size() == 60) {
            return -4;
        }
        script.add(move);
        return script.size() - 1;
    }

    long removeMoves(int n) {
        if (out(n, 0, script.size())) {
            return -3;
        }
        for (int i = 0; i < n; i++) {
            script.remove(script.size() - 1);
        }
        return script.size();
    }

    long position(int figure, int point, int beat, int what) {
        if (noFigure(figure) || out(point, 0, figures.get(figure).limbs().size()) || noBeat(beat) || out(what, 0, 3)) {
            return NO_VALUE;
        }
        State s = state(figure, beat);
        return what == 3 ? s.plane() : s.points()[point][what];
    }

    long box(int figure, int beat, int what, int part) {
        if (noFigure(figure) || noBeat(beat) || out(what, 0, 5) || out(part, 0, 1)) {
            return NO_VALUE;
        }
        Ratio[] edges = edges(figure, beat);
        Ratio[] measures = {
            edges[0], edges[1], edges[2], edges[3], edges[1].minus(edges[0]), edges[3].minus(edges[2]),
        };
        return measures[what].part(part);
    }

    long overlap(int a, int b, int beat, int part) {
        if (noFigure(a) || noFigure(b) || noBeat(beat) || out(part, 0, 1)) {
            return NO_VALUE;
        }
        Ratio[] one = edges(a, beat);
        Ratio[] two = edges(b, beat);
        Ratio width = least(one[1], two[1]).minus(greatest(one[0], two[0]));
        Ratio height = least(one[3], two[3]).minus(greatest(one[2], two[2]));
        boolean apart = width.compareTo(Ratio.ZERO) < 0 || height.compareTo(Ratio.ZERO) < 0;
        return (apart ? Ratio.ZERO : width.times(height)).part(part);
    }

    long crossings(int a, int b, int beat) {
        if (noFigure(a) || noFigure(b)) {
            return -1;
        }
        if (a == b || noBeat(beat)) {
            return -3;
        }
        int pairs = 0;
        for (Ratio[] one : segments(a, beat)) {
            for (Ratio[] two : segments(b, beat)) {
                pairs += meet(one, two) ? 1 : 0;
            }
        }
        return pairs;
    }

    long nextCrossing(int a, int b, int beat) {
        long error = crossings(a, b, beat);
        if (error < 0) {
            return error;
        }
        for (int later = beat; later <= 99; later++) {
            if (crossings(a, b, later) > 0) {
                return later;
            }
        }
        return -5;
    }

    long within(int x, int y, int beat) {
        if (out(x, 0, 20000) || out(y, 0, 20000) || noBeat(beat)) {
            return -3;
        }
        int set = 0;
        for (int f = 0; f < figures.size(); f++) {
            boolean inside = true;
            for (Ratio[] point : shadows(f, beat)) {
                inside &= point[0].isBetween(Ratio.of(-x, 1), Ratio.of(x, 1));
                inside &= point[1].isBetween(Ratio.of(-y, 1), Ratio.of(y, 1));
            }
            set += inside ? 1 << f : 0;
        }
        return set;
    }

    long highest(int beat) {
        if (noBeat(beat)) {
            return -3;
        }
        int found = -5;
        Ratio height = Ratio.of(-1, 1);
        for (int f = 0; f < figures.size(); f++) {
            Ratio[] edges = edges(f, beat);
            Ratio mine = edges[3].minus(edges[2]);
            if (mine.compareTo(height) > 0) {
                found = f;
                height = mine;
            }
        }
        return found;
    }

    long planeFor(int figure, int beat, int height) {
        if (noFigure(figure)) {
            return -1;
        }
        if (noBeat(beat) || out(height, 0, 100000)) {
            return -3;
        }
        int low = Integer.MAX_VALUE;
        int high = Integer.MIN_VALUE;
        for (int[] point : state(figure, beat).points()) {
            low = Math.min(low, point[1]);
            high = Math.max(high, point[1]);
        }
        for (int plane = distance; plane >= 1; plane--) {
            Ratio seen = Ratio.of((long) high * distance, plane).minus(Ratio.of((long) low * distance, plane));
            if (seen.compareTo(Ratio.of(height, 1)) >= 0) {
                return plane;
            }
        }
        return -5;
    }

    long hands(int beat) {
        if (noBeat(beat)) {
            return -3;
        }
        int hands = 0;
        for (int f = 0; f < figures.size(); f++) {
            hands += fewestHands(f, rods(f, beat));
        }
        return hands;
    }

    long busiestBeat() {
        if (script.isEmpty()) {
            return -5;
        }
        int busiest = 0;
        for (int beat = 1; beat <= 99; beat++) {
            busiest = hands(beat) > hands(busiest) ? beat : busiest;
        }
        return busiest;
    }

    long activeRods(int figure, int beat) {
        return noFigure(figure) ? -1 : noBeat(beat) ? -3 : rods(figure, beat).size();
    }

    long addScene(int set) {
        if (out(set, 0, 63)) {
            return -3;
        }
        if (scenes.size() == 8) {
            return -4;
        }
        scenes.add(set);
        return scenes.size() - 1;
    }

    long clearScenes() {
        int before = scenes.size();
        scenes.clear();
        return before;
    }

    long bestScene(int place) {
        return place < 0 ? -3 : place >= scenes.size() ? -5 : bestOrder().get(place);
    }

    long bestCost() {
        return scenes.isEmpty() ? 0 : cost(bestOrder());
    }

    // ---- how it is found

    private static boolean out(int value, int low, int high) {
        return value < low || value > high;
    }

    private static boolean noBeat(int beat) {
        return out(beat, 0, 99);
    }

    private boolean noFigure(int figure) {
        return out(figure, 0, figures.size() - 1);
    }

    private static Ratio least(Ratio a, Ratio b) {
        return a.compareTo(b) < 0 ? a : b;
    }

    private static Ratio greatest(Ratio a, Ratio b) {
        return a.compareTo(b) > 0 ? a : b;
    }

    private State state(int figure, int beat) {
        Figure f = figures.get(figure);
        int[] base = f.base().clone();
        base[2] = base[2] > distance ? distance : base[2];
        int[] directions = new int[f.limbs().size()];
        for (int limb = 0; limb < directions.length; limb++) {
            directions[limb] = f.limbs().get(limb)[2];
        }
        for (int now = 0; now <= beat; now++) {
            for (Move move : script) {
                if (move.beat() == now && move.figure() == figure) {
                    act(move, base, directions);
                }
            }
        }
        int[][] points = new int[directions.length + 1][];
        points[0] = new int[] {base[0], base[1], 0};
        for (int limb = 0; limb < directions.length; limb++) {
            int[] start = points[f.limbs().get(limb)[0] + 1];
            int total = (start[2] + directions[limb]) % 8;
            int length = f.limbs().get(limb)[1];
            points[limb + 1] = new int[] {
                start[0] + length * STEPS[total][0], start[1] + length * STEPS[total][1], total,
            };
        }
        return new State(base[2], points);
    }

    private void act(Move move, int[] base, int[] directions) {
        if (move.limb() >= 0) {
            directions[move.limb()] = (directions[move.limb()] + move.changes()[0] + 8) % 8;
            return;
        }
        base[0] += move.changes()[0];
        base[1] += move.changes()[1];
        base[2] += move.changes()[2];
        if (base[2] < 1) {
            base[2] = 1;
        }
        if (base[2] > distance) {
            base[2] = distance;
        }
    }

    /** {x, y} of the shadow of each point. */
    private List<Ratio[]> shadows(int figure, int beat) {
        State s = state(figure, beat);
        List<Ratio[]> all = new ArrayList<>();
        for (int[] point : s.points()) {
            all.add(new Ratio[] {
                Ratio.of((long) point[0] * distance, s.plane()), Ratio.of((long) point[1] * distance, s.plane()),
            });
        }
        return all;
    }

    /** {least x, greatest x, least y, greatest y}. */
    private Ratio[] edges(int figure, int beat) {
        Ratio[] e = null;
        for (Ratio[] p : shadows(figure, beat)) {
            e = e == null ? new Ratio[] {p[0], p[0], p[1], p[1]} : new Ratio[] {
                least(e[0], p[0]), greatest(e[1], p[0]), least(e[2], p[1]), greatest(e[3], p[1]),
            };
        }
        return e;
    }

    /** {x, y, step in x, step in y} of each limb's shadow. */
    private List<Ratio[]> segments(int figure, int beat) {
        List<Ratio[]> points = shadows(figure, beat);
        List<Ratio[]> all = new ArrayList<>();
        for (int limb = 0; limb < points.size() - 1; limb++) {
            Ratio[] start = points.get(figures.get(figure).limbs().get(limb)[0] + 1);
            Ratio[] end = points.get(limb + 1);
            all.add(new Ratio[] {start[0], start[1], end[0].minus(start[0]), end[1].minus(start[1])});
        }
        return all;
    }

    private static Ratio turn(Ratio ax, Ratio ay, Ratio bx, Ratio by) {
        return ax.times(by).minus(ay.times(bx));
    }

    /** Solves start + t * step = other start + u * other step. */
    private static boolean meet(Ratio[] a, Ratio[] b) {
        Ratio x = b[0].minus(a[0]);
        Ratio y = b[1].minus(a[1]);
        Ratio slope = turn(a[2], a[3], b[2], b[3]);
        if (!slope.isZero()) {
            Ratio t = turn(x, y, b[2], b[3]).over(slope);
            Ratio u = turn(x, y, a[2], a[3]).over(slope);
            return t.isBetween(Ratio.ZERO, Ratio.ONE) && u.isBetween(Ratio.ZERO, Ratio.ONE);
        }
        if (!turn(x, y, a[2], a[3]).isZero()) {
            return false;
        }
        // On one line: the places of the other segment's ends, in steps of this one.
        Ratio square = a[2].times(a[2]).plus(a[3].times(a[3]));
        Ratio from = x.times(a[2]).plus(y.times(a[3])).over(square);
        Ratio to = from.plus(b[2].times(a[2]).plus(b[3].times(a[3])).over(square));
        return least(from, to).compareTo(Ratio.ONE) <= 0 && greatest(from, to).compareTo(Ratio.ZERO) >= 0;
    }

    /** The active rods, -1 for the base. */
    private List<Integer> rods(int figure, int beat) {
        List<Integer> rods = new ArrayList<>();
        for (Move move : script) {
            if (move.beat() == beat && move.figure() == figure && !rods.contains(move.limb())) {
                rods.add(move.limb());
            }
        }
        return rods;
    }

    /** Gives the first rod a hand of its own, or one together with each possible other rod, and tries the rest. */
    private int fewestHands(int figure, List<Integer> rods) {
        if (rods.isEmpty()) {
            return 0;
        }
        List<Integer> rest = new ArrayList<>(rods.subList(1, rods.size()));
        int fewest = 1 + fewestHands(figure, rest);
        for (Integer other : rest) {
            if (isParent(figure, rods.get(0), other) || isParent(figure, other, rods.get(0))) {
                List<Integer> less = new ArrayList<>(rest);
                less.remove(other);
                fewest = Math.min(fewest, 1 + fewestHands(figure, less));
            }
        }
        return fewest;
    }

    private boolean isParent(int figure, int parent, int child) {
        return parent >= 0 && child >= 0 && figures.get(figure).limbs().get(child)[0] == parent;
    }

    private List<Integer> bestOrder() {
        List<Integer> begin = new ArrayList<>();
        begin.add(0);
        return bestFrom(begin);
    }

    /** The best order that begins so; orders are tried in lexicographic order, and an equal one does not replace. */
    private List<Integer> bestFrom(List<Integer> begin) {
        if (begin.size() == scenes.size()) {
            return begin;
        }
        List<Integer> best = null;
        for (int next = 0; next < scenes.size(); next++) {
            if (!begin.contains(next)) {
                List<Integer> longer = new ArrayList<>(begin);
                longer.add(next);
                List<Integer> order = bestFrom(longer);
                best = best == null || cost(order) < cost(best) ? order : best;
            }
        }
        return best;
    }

    private int cost(List<Integer> order) {
        int cost = 0;
        for (int i = 1; i < order.size(); i++) {
            int one = scenes.get(order.get(i - 1));
            int two = scenes.get(order.get(i));
            for (int figure = 0; figure < 6; figure++) {
                cost += (one >> figure & 1) != (two >> figure & 1) ? 1 : 0;
            }
        }
        return cost;
    }
}

import java.util.Random;

/** Long runs of random calls (always the same ones), each answer compared with that of the plain model. */
public final class RandomRunsTest {
    private static final int RUNS = 160;
    private static final int CALLS = 512;
    private static final String[] NAMES = {
        "setDistance", "addFigure", "addLimb", "count", "addTurn", "addShift", "removeMoves", "position", "box",
        "overlap", "crossings", "nextCrossing", "within", "highest", "planeFor", "hands", "busiestBeat",
        "activeRods", "addScene", "clearScenes", "bestScene", "bestCost",
    };
    /** How often each of these calls is made, in the same order. */
    private static final int[] WEIGHTS = {2, 4, 14, 2, 16, 14, 1, 12, 12, 10, 12, 3, 6, 4, 6, 6, 1, 6, 6, 1, 4, 2};
    private static final int[] ODD = {Integer.MIN_VALUE, Integer.MAX_VALUE, -1, 0, 100, 64, 101, -101};

    private static final Due due = new Due();
    private static final Random random = new Random(20261117);
    private static JointedShadows theatre;
    private static PlainTheatre plain;
    /** How far apart things are in this run: small stages have more crossings. */
    private static int spread;
    private static int lastBeat;

    public static void main(String[] args) {
        for (int run = 0; run < RUNS; run++) {
            due.part("run " + run);
            theatre = new JointedShadows();
            plain = new PlainTheatre();
            spread = run % 3 == 0 ? 100 : run % 3 == 1 ? 12 : 4;
            lastBeat = run % 2 == 0 ? 99 : 5;
            for (int call = 0; call < CALLS; call++) {
                oneCall(pick());
            }
        }
        due.finish();
    }

    private static int pick() {
        int total = 0;
        for (int weight : WEIGHTS) {
            total += weight;
        }
        int at = random.nextInt(total);
        int call = 0;
        while (at >= WEIGHTS[call]) {
            at -= WEIGHTS[call];
            call++;
        }
        return call;
    }

    /** Mostly within the range, sometimes at its edge, next to it, or far out. */
    private static int number(int low, int high) {
        int way = random.nextInt(80);
        if (way == 0) {
            return ODD[random.nextInt(ODD.length)];
        }
        if (way == 1) {
            return random.nextBoolean() ? low - 1 : high + 1;
        }
        if (way < 6) {
            return random.nextBoolean() ? low : high;
        }
        return low + random.nextInt(high - low + 1);
    }

    private static int near(int limit) {
        return number(-Math.min(limit, spread), Math.min(limit, spread));
    }

    private static int beat() {
        return number(0, lastBeat);
    }

    private static int figure() {
        return number(0, Math.max(0, (int) plain.count(0) - 1));
    }

    /** A limb that may exist, so that full figures and long chains come up. */
    private static int limb() {
        return number(0, random.nextInt(8));
    }

    private static void oneCall(int call) {
        Row row = new Row(NAMES[call], arguments(call), 0);
        due.is(row.call(), row.answer(theatre), row.answer(plain));
    }

    private static int[] arguments(int call) {
        switch (call) {
            case 0: return new int[] {number(10, 200)};
            case 1: return new int[] {near(100), near(100), number(1, random.nextBoolean() ? 100 : 10)};
            case 2: return new int[] {figure(), random.nextInt(3) == 0 ? -1 : limb(), number(1, 20), number(0, 7)};
            case 3: return new int[] {number(0, 3)};
            case 4: return new int[] {beat(), figure(), limb(), number(-7, 7)};
            case 5: return new int[] {beat(), figure(), near(50), near(50), number(-100, 100)};
            case 6: return new int[] {number(0, random.nextInt(30))};
            case 7: return new int[] {figure(), number(0, 8), beat(), number(0, 3)};
            case 8: return new int[] {figure(), beat(), number(0, 5), number(0, 1)};
            case 9: return new int[] {figure(), figure(), beat(), number(0, 1)};
            case 10: return new int[] {figure(), figure(), beat()};
            case 11: return new int[] {figure(), figure(), beat()};
            case 12: return new int[] {half(), half(), beat()};
            case 13: return new int[] {beat()};
            case 14: return new int[] {figure(), beat(), number(0, random.nextBoolean() ? 100000 : 200)};
            case 15: return new int[] {beat()};
            case 17: return new int[] {figure(), beat()};
            case 18: return new int[] {number(0, random.nextBoolean() ? 63 : 7)};
            case 20: return new int[] {number(0, 8)};
            default: return new int[0];
        }
    }

    private static int half() {
        return number(0, random.nextBoolean() ? 20000 : 300);
    }
}

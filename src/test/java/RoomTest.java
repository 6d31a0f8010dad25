import com.sun.management.ThreadMXBean;
import java.lang.management.ManagementFactory;
import java.util.List;

/** What a theatre and its calls take of a run's one room (LANGUAGE.md, rule 12): only what is kept makes objects. */
public final class RoomTest {
    private static final Due due = new Due();
    private static final ThreadMXBean THREADS = (ThreadMXBean) ManagementFactory.getThreadMXBean();
    private static final long BYTES_OF_A_THEATRE = 20_000;
    private static final long BYTES_OF_A_MOVE = 100;
    private static final int CALLS = 300;

    private static final List<Row> FULL_STAGE = Row.rows("""
            6 x addFigure(0, 0, 50) = #
            8 x addLimb(0, #-1, 20, 1) = #
            8 x addLimb(1, #-1, 20, 1) = #
            60 x addShift(#, 0, 1, 1, 1) = #
            8 x addScene(#) = #
            """);

    public static void main(String[] args) {
        // The first time classes are loaded, which counts too.
        questions();
        refused();
        moves();
        due.part("a theatre");
        due.isTrue("its room: " + theatre(), theatre() < BYTES_OF_A_THEATRE);
        due.part("questions");
        due.isTrue("their room: " + questions(), questions() < BYTES_OF_A_MOVE);
        due.part("refused calls");
        due.isTrue("their room: " + refused(), refused() < BYTES_OF_A_MOVE);
        due.part("moves");
        due.isTrue("their room: " + moves(), moves() < CALLS * BYTES_OF_A_MOVE);
        due.finish();
    }

    private static long bytes() {
        return THREADS.getCurrentThreadAllocatedBytes();
    }

    private static JointedShadows fullStage() {
        JointedShadows theatre = new JointedShadows();
        FULL_STAGE.forEach(row -> row.answer(theatre));
        return theatre;
    }

    private static long theatre() {
        long before = bytes();
        JointedShadows theatre = new JointedShadows();
        return bytes() - before + theatre.count(0);
    }

    /** Made directly, as a call by its name would itself take room. */
    private static long questions() {
        JointedShadows t = fullStage();
        long before = bytes();
        long sum = 0;
        for (int i = 0; i < CALLS / 15; i++) {
            sum += t.count(3) + t.position(0, 8, 99, 0) + t.box(0, 99, 5, 0) + t.overlap(0, 1, 99, 1);
            sum += t.crossings(0, 1, 99) + t.nextCrossing(0, 1, 0) + t.within(9, 9, 99) + t.highest(99);
            sum += t.planeFor(0, 99, 1) + t.hands(59) + t.busiestBeat() + t.activeRods(0, 59);
            sum += t.bestScene(7) + t.bestCost() + t.setDistance(77);
        }
        return bytes() - before + (sum & 1);
    }

    /** Where everything is full nothing is made that could not be kept. */
    private static long refused() {
        JointedShadows t = fullStage();
        long before = bytes();
        long sum = 0;
        for (int i = 0; i < CALLS / 5; i++) {
            sum += t.addFigure(0, 0, 50) + t.addLimb(0, -1, 1, 0) + t.addTurn(i % 100, 0, 0, 1);
            sum += t.addShift(i % 100, 0, 1, 1, 1) + t.addScene(0);
        }
        return bytes() - before + (sum & 1);
    }

    private static long moves() {
        JointedShadows t = fullStage();
        long before = bytes();
        long sum = 0;
        for (int i = 0; i < CALLS / 2; i++) {
            sum += t.removeMoves(1) + t.addShift(i % 100, 0, 1, 1, 1);
        }
        return bytes() - before + (sum & 1);
    }
}

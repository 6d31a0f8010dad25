import java.util.ArrayList;
import java.util.List;

/**
 * What can be asked of a theatre after a call: all that can be seen of its state, and then what it answers to
 * calls that add and remove. A refused call must leave all of these answers as they would be without it.
 */
final class Later {
    private static final int CALLS_OF_AN_OBJECT = 512;
    private static final int[] BEATS = {0, 4, 50, 99};
    private static final List<Row> QUESTIONS = questions();
    private static final List<Row> CHANGES = changes();

    private Later() {
    }

    /** The first call that is answered otherwise after the run than after the other run, or null. */
    static String difference(List<Row> run, List<Row> other) {
        int room = CALLS_OF_AN_OBJECT - Math.max(run.size(), other.size()) - CHANGES.size();
        if (room < 50) {
            throw new IllegalArgumentException("the run leaves no room for questions");
        }
        for (int from = 0; from < QUESTIONS.size(); from += room) {
            List<Row> asked = new ArrayList<>(QUESTIONS.subList(from, Math.min(from + room, QUESTIONS.size())));
            asked.addAll(CHANGES);
            String found = difference(after(run), after(other), asked);
            if (found != null) {
                return found;
            }
        }
        return null;
    }

    private static JointedShadows after(List<Row> run) {
        JointedShadows theatre = new JointedShadows();
        for (Row row : run) {
            row.answer(theatre);
        }
        return theatre;
    }

    private static String difference(JointedShadows one, JointedShadows two, List<Row> asked) {
        for (Row row : asked) {
            long first = row.answer(one);
            long second = row.answer(two);
            if (first != second) {
                return row.call() + ": " + first + " instead of " + second;
            }
        }
        return null;
    }

    private static List<Row> questions() {
        List<Row> all = new ArrayList<>();
        for (int i = 0; i <= 3; i++) {
            add(all, "count", i);
        }
        for (int place = 0; place <= 8; place++) {
            add(all, "bestScene", place);
        }
        add(all, "bestCost");
        add(all, "busiestBeat");
        for (int beat = 0; beat <= 99; beat++) {
            add(all, "hands", beat);
            for (int figure = 0; figure < 6; figure++) {
                add(all, "activeRods", figure, beat);
            }
        }
        for (int beat : BEATS) {
            askOfBeat(all, beat);
        }
        return all;
    }

    private static void askOfBeat(List<Row> all, int beat) {
        add(all, "highest", beat);
        add(all, "within", 40, 300, beat);
        for (int figure = 0; figure < 6; figure++) {
            for (int i = 0; i < 9 * 4; i++) {
                add(all, "position", figure, i / 4, beat, i % 4);
            }
            for (int i = 0; i < 6 * 2; i++) {
                add(all, "box", figure, beat, i / 2, i % 2);
            }
            add(all, "planeFor", figure, beat, 0);
            add(all, "planeFor", figure, beat, 37);
            for (int other = 0; other < figure; other++) {
                add(all, "overlap", figure, other, beat, 0);
                add(all, "overlap", figure, other, beat, 1);
                add(all, "crossings", figure, other, beat);
                add(all, "nextCrossing", figure, other, beat);
            }
        }
    }

    private static List<Row> changes() {
        List<Row> all = new ArrayList<>();
        add(all, "addFigure", 1, 2, 3);
        for (int figure = 0; figure < 6; figure++) {
            add(all, "addLimb", figure, -1, 3, 1);
            add(all, "addTurn", 5, figure, 0, 1);
            add(all, "position", figure, 1, 99, 2);
        }
        add(all, "addShift", 5, 0, 1, 1, 1);
        add(all, "removeMoves", 1);
        add(all, "addScene", 5);
        add(all, "bestCost");
        add(all, "clearScenes");
        add(all, "setDistance", 150);
        return all;
    }

    private static void add(List<Row> all, String name, int... arguments) {
        all.add(new Row(name, arguments, 0));
    }
}

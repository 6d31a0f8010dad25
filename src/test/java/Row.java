import java.util.ArrayList;
import java.util.List;
import java.util.Map;
import java.util.StringJoiner;
import java.util.regex.Matcher;
import java.util.regex.Pattern;

/**
 * A call with the answer that is due, written as in the document: "addFigure(0, 0, 50) = 0". Rows stand in lines
 * or behind semicolons; what follows " -- " is a remark. "8 x addLimb(0, #-1, 1, 0) = #" is made eight times, with
 * # from 0 to 7. A fraction that is due, "box(0, 0, 5) = 20/3", stands for the two calls with part 0 and part 1.
 */
record Row(String name, int[] arguments, long due) {
    private static final Pattern FORM = Pattern.compile("(?:(\\d+) x )?(\\w+)\\(([^)]*)\\) = ([^ ]+)");
    private static final Map<String, Long> WORDS = Map.of(
            "NO_SUCH_FIGURE", -1L, "NO_SUCH_LIMB", -2L, "BAD_VALUE", -3L, "FULL", -4L, "NONE", -5L,
            "NO_VALUE", Long.MIN_VALUE, "LEAST", (long) Integer.MIN_VALUE, "GREATEST", (long) Integer.MAX_VALUE);

    static List<Row> rows(String text) {
        List<Row> rows = new ArrayList<>();
        for (String line : text.split("\n")) {
            for (String call : line.replaceAll(" -- .*", "").split(";")) {
                if (!call.isBlank()) {
                    addRows(rows, call.strip());
                }
            }
        }
        return rows;
    }

    private static void addRows(List<Row> rows, String call) {
        Matcher form = FORM.matcher(call);
        if (!form.matches()) {
            throw new IllegalArgumentException("not a call with its answer: " + call);
        }
        int times = form.group(1) == null ? 1 : Integer.parseInt(form.group(1));
        for (int i = 0; i < times; i++) {
            String arguments = form.group(3);
            String[] dues = form.group(4).split("/");
            if (dues.length == 1) {
                rows.add(new Row(form.group(2), numbers(arguments, i), number(dues[0], i)));
                continue;
            }
            for (int part = 0; part < 2; part++) {
                rows.add(new Row(form.group(2), numbers(arguments + ", " + part, i), number(dues[part], i)));
            }
        }
    }

    private static int[] numbers(String list, int time) {
        String[] words = list.isBlank() ? new String[0] : list.split(",");
        int[] numbers = new int[words.length];
        for (int i = 0; i < words.length; i++) {
            numbers[i] = (int) number(words[i].strip(), time);
        }
        return numbers;
    }

    private static long number(String word, int time) {
        if (word.startsWith("#")) {
            return word.length() == 1 ? time : time + Long.parseLong(word.substring(1));
        }
        return WORDS.containsKey(word) ? WORDS.get(word) : Long.parseLong(word);
    }

    /** Whether an error is due; NONE is none, and what position and box measure may be negative. */
    boolean isRefused() {
        boolean isLong = name.equals("position") || name.equals("box") || name.equals("overlap");
        return isLong ? due == Long.MIN_VALUE : due < 0 && due != -5;
    }

    long answer(JointedShadows theatre) {
        return Calls.answer(theatre, name, arguments);
    }

    long answer(PlainTheatre theatre) {
        return Calls.answer(theatre, name, arguments);
    }

    String call() {
        StringJoiner list = new StringJoiner(", ", name + "(", ")");
        for (int argument : arguments) {
            list.add(Integer.toString(argument));
        }
        return list.toString();
    }
}

import java.io.IOException;
import java.util.ArrayList;
import java.util.LinkedHashMap;
import java.util.List;
import java.util.Map;
import java.util.Set;

/**
 * The document's sentences, each with runs of calls that would go wrong if it were broken. A run begins with a new
 * object; a blank line begins the next run. Each run is made by the class and by the plain model; each refused call
 * in it must leave everything as it was. At the end no word of the promises may be without a run.
 */
final class Sentences {
    private static final String UNTOLD_YET = "\\w";
    /** FaceTest compares the face with the class. */
    private static final Set<String> UNTESTED = Set.of("The public face", "Not promised");

    private final Due due = new Due();
    /** Each section's text, in which the sentences that have been told are blanked out. */
    private final Map<String, String> untold = new LinkedHashMap<>();
    private String section = "";

    Sentences() throws IOException {
        Document.sections().forEach((name, text) -> untold.put(name, plainText(text)));
    }

    /** Without what is tested elsewhere (examples, signatures) and what only leads over. */
    private static String plainText(String text) {
        String rest = text.replaceAll("(?s)Examples: .*The constants:", "")
                .replaceAll("(?m)^The constructor and the methods follow.*$", "")
                .replaceAll("(?m)^`\\w+.*\\)`$", "")
                .replaceAll("(?m)^----.*$", "");
        return spaced(rest);
    }

    private static String spaced(String text) {
        return text.replaceAll("\\s+", " ").strip();
    }

    void in(String name) {
        due.part(name);
        due.isTrue("there is such a section", untold.containsKey(name));
        section = name;
    }

    void says(String sentence, String runs) {
        String text = untold.getOrDefault(section, "");
        String told = spaced(sentence);
        due.part(section + ", '" + told + "'");
        due.isTrue("the document says so", text.contains(told));
        untold.put(section, text.replace(told, " | "));
        int number = 0;
        for (String run : runs.strip().split("\n\\s*\n")) {
            number++;
            due.part(section + ", '" + told + "', run " + number);
            check(Row.rows(run));
        }
    }

    private void check(List<Row> run) {
        due.isTrue("a run has calls, 512 at most", !run.isEmpty() && run.size() <= 512);
        JointedShadows theatre = new JointedShadows();
        PlainTheatre plain = new PlainTheatre();
        for (Row row : run) {
            due.is(row.call(), row.answer(theatre), row.due());
            due.is("the plain model: " + row.call(), row.answer(plain), row.due());
        }
        refusedChangeNothing(run);
    }

    private void refusedChangeNothing(List<Row> run) {
        List<Row> with = new ArrayList<>();
        List<Row> without = new ArrayList<>();
        for (Row row : run) {
            with.add(row);
            if (!row.isRefused()) {
                without.add(row);
                continue;
            }
            String found = Later.difference(with, without);
            due.isTrue("refused " + row.call() + " changes " + found, found == null);
        }
    }

    void finish() {
        untold.forEach((name, text) -> {
            if (!UNTESTED.contains(name)) {
                due.part(name);
                boolean isTold = !text.matches("(?s).*" + UNTOLD_YET + ".*");
                due.isTrue("every sentence has its runs, not yet: " + text, isTold);
            }
        });
        due.finish();
    }
}

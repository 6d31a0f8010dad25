import java.io.IOException;
import java.util.regex.Matcher;
import java.util.regex.Pattern;

/** The three examples of the document's section "Description", read from there; run from the project's directory. */
public final class ExamplesTest {
    private static final Pattern EXAMPLE = Pattern.compile("(?m)^(\\d)\\. [^:]*: (.*)\\.$");
    private static final int EXAMPLES = 3;
    private static final int CALLS_OF_EACH = 16;

    public static void main(String[] args) throws IOException {
        Due due = new Due();
        Matcher examples = EXAMPLE.matcher(Document.sections().get("Description"));
        int found = 0;
        while (examples.find()) {
            found++;
            due.part("example " + examples.group(1));
            JointedShadows theatre = new JointedShadows();
            int calls = 0;
            for (Row row : Row.rows(examples.group(2))) {
                calls++;
                due.is(row.call(), row.answer(theatre), row.due());
            }
            due.is("its calls", calls, CALLS_OF_EACH);
        }
        due.is("examples", found, EXAMPLES);
        due.finish();
    }
}

import java.io.IOException;
import java.nio.file.Files;
import java.nio.file.Path;
import java.util.Set;
import java.util.TreeSet;
import java.util.regex.Matcher;
import java.util.regex.Pattern;

/** What of ../shared/LANGUAGE.md can be seen in the text of the class; run from the project's directory. */
public final class LanguageTest {
    private static final Due due = new Due();
    private static final String[] BANNED = {
        "throw", "throws", "try", "catch", "finally", "synchronized", "assert", "volatile", "native", "transient",
        "import", "package", "protected", "equals", "hashCode", "toString", "Object", "Thread", "Random", "double",
        "float", "while (true)", "for (;;)",
    };
    private static final Set<String> LIBRARY = Set.of(
            "Math.min", "Math.max", "Math.abs", "Math.floorMod", "Integer.bitCount", "Integer.MAX_VALUE",
            "Long.compare", "Long.MIN_VALUE", "System.arraycopy");

    public static void main(String[] args) throws IOException {
        String text = Files.readString(Path.of("src/main/java/JointedShadows.java"));
        String code = text.replaceAll("(?s)/\\*.*?\\*/", "").replaceAll("//[^\n]*", "");
        due.isTrue("only plain signs", text.chars().allMatch(sign -> sign < 128));
        for (String word : BANNED) {
            boolean found = Pattern.compile("(?<!\\w)" + Pattern.quote(word) + "(?!\\w)").matcher(code).find();
            due.isTrue("without '" + word + "'", !found);
        }
        due.isTrue("no lambda, no method reference", !code.contains("->") && !code.contains("::"));
        due.isTrue("no static block", !Pattern.compile("static\\s*\\{").matcher(code).find());
        library(code);
        methodLengths(text);
        due.finish();
    }

    private static void library(String code) {
        Set<String> used = new TreeSet<>();
        Matcher names = Pattern.compile("\\b(Math|Integer|Long|System|Arrays|String)\\b(\\.\\w+)?").matcher(code);
        while (names.find()) {
            used.add(names.group());
        }
        used.removeAll(LIBRARY);
        due.isTrue("outside the library that is used so far: " + used, used.isEmpty());
    }

    /** A method begins at its signature's indentation and ends at the brace there. */
    private static void methodLengths(String text) {
        String[] lines = text.split("\n");
        int longest = 0;
        for (int i = 0; i < lines.length; i++) {
            if (lines[i].matches(" {4,8}[^ *].*\\) \\{") ) {
                String end = lines[i].replaceAll("\\S.*", "") + "}";
                int j = i;
                while (j < lines.length && !lines[j].equals(end)) {
                    j++;
                }
                longest = Math.max(longest, j - i + 1);
            }
        }
        due.isTrue("methods found", longest > 5);
        due.isTrue("no method over sixty lines: " + longest, longest <= 60);
    }
}

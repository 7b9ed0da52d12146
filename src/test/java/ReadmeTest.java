import java.nio.file.Files;
import java.nio.file.Path;
import java.util.regex.Matcher;
import java.util.regex.Pattern;

/** The example in README.md answers what its comments say. */
public final class ReadmeTest {
    private static final Pattern TOLD = Pattern.compile("for \\(char c : \"([^\"]*)\"");
    private static final Pattern ASKED = Pattern.compile("(?m)^x\\.([a-z]+\\([-0-9, ]*\\)); *// (-?[0-9]+)\\b");

    public static void main(String[] args) throws Exception {
        Due due = new Due("ReadmeTest");
        String text = Files.readString(Path.of("README.md"));
        Run run = new Run(due, "README.md");
        Matcher told = TOLD.matcher(text);
        due.holds("the example tells a moor", told.find());
        String letters = told.group(1);
        for (int i = 0; i < letters.length(); i++) {
            run.goes("feed(" + (int) letters.charAt(i) + ") = " + (i + 1));
        }
        int calls = 0;
        Matcher asked = ASKED.matcher(text);
        while (asked.find()) {
            run.goes(asked.group(1) + " = " + asked.group(2));
            calls++;
        }
        due.holds("the example asks", calls > 0);
        due.is("all of its calls are asked", calls, text.split("(?m)^x\\.", -1).length - 1);
        due.end();
    }
}

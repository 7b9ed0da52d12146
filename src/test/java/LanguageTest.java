import java.nio.file.Files;
import java.nio.file.Path;
import java.util.List;
import java.util.regex.Matcher;
import java.util.regex.Pattern;

/** Words and library calls that ../shared/LANGUAGE.md leaves out do not stand in the source. */
public final class LanguageTest {
    private static final String[] WORDS = {
        "throw", "throws", "try", "catch", "finally", "synchronized", "assert", "Object", "System.out",
        "System.nanoTime", "System.currentTimeMillis", "Random", "Thread", "equals", "hashCode", "toString",
        "Exact", "->", "::", "package", "protected", "@"};

    public static void main(String[] args) throws Exception {
        Due due = new Due("LanguageTest");
        Path source = Path.of(args.length > 0 ? args[0] : "src/main/java/SeenADayLate.java");
        String text = Files.readString(source).replaceAll("(?s)/\\*.*?\\*/", " ");
        for (String word : WORDS) {
            String edge = Character.isLetter(word.charAt(0)) ? "\\b" : "";
            due.holds("no " + word, !Pattern.compile(edge + Pattern.quote(word) + edge).matcher(text).find());
        }
        Matcher imports = Pattern.compile("import ([^;]*);").matcher(text);
        while (imports.find()) {
            due.holds("import " + imports.group(1), imports.group(1).equals("java.util.Arrays"));
        }
        Matcher calls = Pattern.compile("\\b(Math|Integer|Long|Arrays|System)\\.([a-zA-Z_]+)").matcher(text);
        List<String> free = List.of("Math.max", "Math.min", "Math.abs", "Integer.bitCount", "Integer.MAX_VALUE",
                "Arrays.fill", "System.arraycopy");
        while (calls.find()) {
            due.holds(calls.group() + " is listed", free.contains(calls.group()));
        }
        shortMethods(due, text);
        due.end();
    }

    private static void shortMethods(Due due, String text) {
        String[] lines = text.split("\n");
        int start = -1;
        String end = "";
        for (int i = 0; i < lines.length; i++) {
            Matcher opens = Pattern.compile("^((    ){1,2})(?!.*\\b(class|if|for|while|switch|else)\\b).*\\) \\{$").matcher(lines[i]);
            if (start < 0 && opens.find()) {
                start = i;
                end = opens.group(1) + "}";
            } else if (start >= 0 && lines[i].equals(end)) {
                due.holds(lines[start].trim() + " is short", i - start <= 60);
                start = -1;
            }
        }
    }
}

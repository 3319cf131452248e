import java.nio.file.Files;
import java.nio.file.Path;
import java.util.regex.Matcher;
import java.util.regex.Pattern;

/**
 * Sentences of the document, each with a script that would go wrong if the sentence were broken.
 *
 * Lines of a script:
 *   new                            another object
 *   laid d0,0,0;v3;                another object, on which this text is written and laid
 *   text d0,0,0;                   letters behind THE TEXT of the object
 *   fault d0,0,9; = 0              FAULT of this text, asked of another object that is not kept
 *   tick(1) = 0   count(3) = NO    calls, each with the answer that is due
 *   9 times tick(50) = 0           a call that has to answer so each time
 */
final class Sentences {
    private static final Path DOCUMENT = Path.of("../shared/DOC.md");
    private static final String ANSWER = "(-?\\d+|BAD|NO|FULL|NONE)";
    private static final Pattern FAULT = Pattern.compile("fault (.*) = " + ANSWER);
    private static final Pattern ROW = Pattern.compile("\\s*(?:(\\d+) times )?(\\w+\\([^)]*\\)) = " + ANSWER + "(?=\\s|$)");

    private final Check check;
    private final String document;
    private String sentence;
    private Calls calls;

    Sentences(Check check) throws Exception {
        this.check = check;
        document = plain(Files.readString(DOCUMENT));
    }

    private static String plain(String text) {
        return text.replaceAll("\\s+", " ");
    }

    /** The words have to stand in the document, so that no test outlives the sentence that it is for. */
    void says(String words, String script) {
        sentence = words;
        check.holds("the document says '" + words + "'", document.contains(plain(words)));
        calls = new Calls();
        script.lines().map(String::strip).filter(line -> !line.isEmpty()).forEach(this::line);
    }

    private void line(String line) {
        Matcher fault = FAULT.matcher(line);
        if (line.equals("new")) {
            calls = new Calls();
        } else if (line.startsWith("laid ")) {
            lay(line.substring(5));
        } else if (line.startsWith("text ")) {
            calls.writeAll(line.substring(5));
        } else if (fault.matches()) {
            faultOf(fault.group(1), Calls.number(fault.group(2)));
        } else {
            rows(line);
        }
    }

    private void due(String call, int got, int want) {
        check.due("'" + sentence + "': " + call, got, want);
    }

    private void lay(String text) {
        calls = new Calls();
        calls.writeAll(text);
        int devices = (int) text.chars().filter(c -> c == 'd').count();
        due("lay() of " + text, calls.call("lay"), devices);
    }

    private void faultOf(String text, int place) {
        Calls other = new Calls();
        other.writeAll(text);
        due("fault() of '" + text + "'", other.call("fault"), place);
    }

    private void rows(String line) {
        Matcher row = ROW.matcher(line);
        int end = 0;
        while (row.find() && row.start() == end) {
            end = row.end();
            int times = row.group(1) == null ? 1 : Integer.parseInt(row.group(1));
            for (int k = 0; k < times; k++) {
                due(row.group(2) + " in '" + line + "'", calls.written(row.group(2)), Calls.number(row.group(3)));
            }
        }
        if (end != line.length()) {
            throw new IllegalStateException("no line of a script: " + line);
        }
    }
}

import java.nio.file.Files;
import java.nio.file.Path;
import java.util.regex.Matcher;
import java.util.regex.Pattern;

/** README.md: the answers that its examples tell are those of the program, and it names each call of the face. */
public final class ReadmeTests {
    private static final Check check = new Check("ReadmeTests");
    private static final Pattern TEXT = Pattern.compile("for \\(char letter : \"(.*)\"\\.toCharArray\\(\\)\\) \\{");
    private static final Pattern CALL = Pattern.compile("ring\\.(\\w+\\(.*\\)); *// (-?\\d+|BAD|NO|FULL|NONE): .*");
    private static final Pattern LETTER = Pattern.compile("'(.)'");
    private static final String[] FACE = {"write(letter)", "wipe()", "fault()", "lay()", "read(i, v)", "wire(w, how)", "day(is)",
        "tick(n)", "silence()", "reset()", "undo()", "device(i, what)", "stop(i, end, what)", "wireOf(w, what)", "worst(what)",
        "help(what)", "zone(z, what)", "effect(k, what)", "count(what)"};

    private static Calls ring;

    private ReadmeTests() {
    }

    public static void main(String[] args) throws Exception {
        String page = Files.readString(Path.of("README.md"));
        for (String call : FACE) {
            check.holds("README.md names " + call, page.contains("`" + call + "`"));
        }
        check.holds("README.md says how to run the tests", page.contains(".ci/run"));
        Matcher example = Pattern.compile("```java\n(.*?)```", Pattern.DOTALL).matcher(page);
        int examples = 0;
        while (example.find()) {
            examples++;
            example.group(1).lines().map(String::strip).forEach(ReadmeTests::line);
        }
        check.due("examples in README.md", examples, 2);
        check.end();
    }

    private static void line(String line) {
        Matcher text = TEXT.matcher(line);
        Matcher call = CALL.matcher(line);
        if (line.startsWith("AlarmRing ring = new AlarmRing();")) {
            ring = new Calls();
        } else if (text.matches()) {
            ring.writeAll(text.group(1));
        } else if (call.matches()) {
            String written = LETTER.matcher(call.group(1)).replaceAll(m -> Integer.toString(m.group(1).charAt(0)));
            check.due("README.md: " + line, ring.written(written), Calls.number(call.group(2)));
        } else {
            check.holds("README.md: a line without an answer: " + line, line.equals("ring.write(letter);") || line.equals("}"));
        }
    }
}

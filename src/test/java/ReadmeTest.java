import java.nio.charset.StandardCharsets;
import java.nio.file.Files;
import java.nio.file.Path;
import java.util.Set;
import java.util.TreeSet;
import java.util.regex.Matcher;
import java.util.regex.Pattern;

/** What README.md shows is so: its run of calls, line by line, answers as it is told behind each call. */
public final class ReadmeTest {
    private static final Check CHECK = new Check("ReadmeTest");
    private static final Pattern TYPED = Pattern.compile("for \\(char b : \"(.*)\"\\.toCharArray\\(\\)\\) court\\.type\\(([01]), b\\);");
    private static final Pattern ASKED = Pattern.compile("court\\.([a-z]+)\\(([-0-9, ]*)\\); +// (-?\\d+)(:.*)?");
    private static final String MADE = "TeaLaws court = new TeaLaws();";

    private final TeaLaws court = new TeaLaws();
    private final PlainCourt plain = new PlainCourt();
    private final Set<String> used = new TreeSet<>();

    public static void main(String[] args) throws Exception {
        String text = Files.readString(Path.of("README.md"), StandardCharsets.UTF_8);
        Matcher block = Pattern.compile("(?s)```java\n(.*?)```").matcher(text);
        CHECK.holds("README.md shows a run of calls", block.find());
        if (!CHECK.failed()) {
            ReadmeTest test = new ReadmeTest();
            block.group(1).lines().forEach(test::follow);
            CHECK.holds("every call is shown, not just " + test.used, test.used.equals(Set.of(Calls.NAMES)));
        }
        CHECK.end();
    }

    private void follow(String line) {
        Matcher typed = TYPED.matcher(line);
        Matcher asked = ASKED.matcher(line);
        if (typed.matches()) {
            for (char b : typed.group(1).toCharArray()) {
                answer("type", Integer.parseInt(typed.group(2)), b);
            }
        } else if (asked.matches()) {
            CHECK.due(line, answer(asked.group(1), numbers(asked.group(2))), Long.parseLong(asked.group(3)));
        } else {
            CHECK.holds("a line that is known: " + line, line.isEmpty() || line.startsWith("// ") || line.equals(MADE));
        }
    }

    private long answer(String call, int... a) {
        used.add(call);
        int op = Calls.number(call);
        long got = Calls.answer(court, op, a);
        CHECK.due(Calls.told(op, a), got, Calls.answer(plain, op, a));
        return got;
    }

    private static int[] numbers(String list) {
        String[] told = list.isEmpty() ? new String[0] : list.split(", ");
        int[] found = new int[told.length];
        for (int i = 0; i < told.length; i++) {
            found[i] = Integer.parseInt(told[i]);
        }
        return found;
    }
}

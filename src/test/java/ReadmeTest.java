import java.nio.file.Files;
import java.nio.file.Path;
import java.util.regex.Matcher;
import java.util.regex.Pattern;

/**
 * The example of README.md: every call of it, with the answer that the comment beside it begins with.
 * Run from the project's root, where the text is found.
 */
public final class ReadmeTest {
    private static final Pattern EXAMPLE = Pattern.compile("(?s)```java\n(.*?)```");
    private static final Pattern MADE = Pattern.compile("RtlSynth x = new RtlSynth\\((\\d+)\\); *//.*");
    private static final Pattern CALL = Pattern.compile("x\\.(\\w+)\\(([^)]*)\\);(?: *// ([\\w-]+)(?::.*)?)?");
    private static final Check check = new Check();
    private static RtlSynth x;

    public static void main(String[] args) throws Exception {
        Matcher example = EXAMPLE.matcher(Files.readString(Path.of("README.md")));
        check.due("an example in README.md", example.find(), true);
        for (String line : example.group(1).split("\n")) {
            if (!line.isBlank()) run(line);
        }
        check.finish();
    }

    private static void run(String line) throws Exception {
        Matcher made = MADE.matcher(line);
        Matcher call = CALL.matcher(line);
        if (made.matches()) {
            x = new RtlSynth(Integer.parseInt(made.group(1)));
        } else if (call.matches()) {
            Object answer = answer(call.group(1), call.group(2));
            String due = call.group(3) == null ? "null" : number(call.group(3));
            check.due(line, String.valueOf(answer), due);
        } else {
            check.due("a line that is no call: " + line, true, false);
        }
    }

    private static Object answer(String method, String arguments) throws Exception {
        String[] words = arguments.isEmpty() ? new String[0] : arguments.split(", ");
        Class<?>[] types = new Class<?>[words.length];
        Object[] numbers = new Object[words.length];
        for (int i = 0; i < words.length; i++) {
            types[i] = int.class;
            numbers[i] = Integer.valueOf(number(words[i].replace("RtlSynth.", "")));
        }
        return RtlSynth.class.getMethod(method, types).invoke(x, numbers);
    }

    /** The number behind the name of a constant; any other word as it is. */
    private static String number(String word) throws Exception {
        boolean constant = word.matches("[A-Z_]+");
        return constant ? String.valueOf(RtlSynth.class.getField(word).getInt(null)) : word;
    }
}

import java.io.IOException;
import java.lang.reflect.InvocationTargetException;
import java.lang.reflect.Method;
import java.nio.file.Files;
import java.nio.file.Path;
import java.util.TreeSet;
import java.util.regex.Matcher;
import java.util.regex.Pattern;

/** The calls of README.md's example answer what stands behind them there. */
public final class ReadmeTest {
    private static final Pattern CALL = Pattern.compile("reader\\.(\\w+)\\((.*)\\); +// ([\\w-]+), (.*)");
    private static final Pattern TEXT = Pattern.compile("of \"(.*)\"");

    private final TypedTermReader reader = new TypedTermReader();
    private String fed = "";
    private final TreeSet<String> called = new TreeSet<>();

    public static void main(String[] args) throws IOException, ReflectiveOperationException {
        String readme = Files.readString(Path.of("README.md"));
        new ReadmeTest().example(readme);
        Probe.due("the command that runs the tests stands there", Boolean.toString(readme.contains("\n.ci/run\n")),
                "true");
        Probe.end();
    }

    private void example(String readme) throws ReflectiveOperationException {
        for (String line : readme.split("\n")) {
            if (line.startsWith("reader.")) {
                Matcher call = CALL.matcher(line);
                Probe.due("<" + line + "> has an answer", Boolean.toString(call.matches()), "true");
                if (call.matches()) {
                    answerDue(line, call);
                    textDue(line, call.group(4));
                }
            }
        }
        Probe.due("what the example calls", called.toString(),
                "[constant, fault, feed, place, symbol, term, type, typeSymbol]");
    }

    private void answerDue(String line, Matcher call) throws ReflectiveOperationException {
        called.add(call.group(1));
        String[] written = call.group(2).isEmpty() ? new String[0] : call.group(2).split(", ");
        Object[] numbers = new Object[written.length];
        Class<?>[] kinds = new Class<?>[written.length];
        StringBuilder bytes = new StringBuilder();
        for (int i = 0; i < written.length; i++) {
            int number = Integer.decode(written[i]);
            numbers[i] = number;
            kinds[i] = int.class;
            for (int shift = 24; shift >= 0; shift -= 8) {
                bytes.append((char) (number >>> shift & 255));
            }
        }
        fed = bytes.toString();
        Probe.due("<" + line + ">", answer(call.group(1), kinds, numbers), call.group(3));
    }

    private String answer(String name, Class<?>[] kinds, Object[] numbers) throws ReflectiveOperationException {
        Method method = TypedTermReader.class.getMethod(name, kinds);
        try {
            return method.invoke(reader, numbers).toString();
        } catch (InvocationTargetException e) {
            return e.getCause().getClass().getSimpleName();
        }
    }

    /** A text that stands behind a feed is the one whose bytes are fed. */
    private void textDue(String line, String remark) {
        Matcher text = TEXT.matcher(remark);
        if (text.matches()) {
            Probe.due("text of <" + line + ">", fed.stripTrailing(), text.group(1));
        }
    }
}

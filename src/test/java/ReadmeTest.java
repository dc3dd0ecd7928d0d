import java.io.IOException;
import java.lang.reflect.Method;
import java.lang.reflect.Modifier;
import java.nio.file.Files;
import java.nio.file.Path;
import java.util.Arrays;
import java.util.Set;
import java.util.TreeSet;
import java.util.regex.Matcher;
import java.util.regex.Pattern;

/** The calls that README.md shows: they give the answers that stand behind them, and none of the face is left out. */
public final class ReadmeTest {
    private static final Check CHECK = new Check("ReadmeTest");
    private static final Pattern SHOWN = Pattern.compile("x\\.(\\w+)\\((.*)\\); *// (-?\\d+): (.*)");
    private static final Pattern FED = Pattern.compile("feed\\(x, \"(.*)\"\\)");
    private static final Pattern QUOTED = Pattern.compile("the bytes of \"(.*)\".*");

    private final TermRules x = new TermRules();
    private final Set<String> shown = new TreeSet<>();

    public static void main(String[] args) throws IOException, ReflectiveOperationException {
        ReadmeTest test = new ReadmeTest();
        for (String line : Files.readAllLines(Path.of("README.md"))) {
            Matcher call = SHOWN.matcher(line);
            if (call.matches()) {
                test.make(call.group(1), call.group(2), Integer.parseInt(call.group(3)), call.group(4));
            }
        }
        // The README's own method feeds.
        test.shown.add("feed");
        CHECK.due("the calls that are shown", test.shown.toString(), theFace().toString());
        CHECK.finish();
    }

    private static Set<String> theFace() {
        Set<String> names = new TreeSet<>();
        for (Method method : methods()) {
            names.add(method.getName());
        }
        return names;
    }

    private static Method[] methods() {
        return Arrays.stream(TermRules.class.getDeclaredMethods())
                .filter(method -> Modifier.isPublic(method.getModifiers()))
                .toArray(Method[]::new);
    }

    private void make(String name, String given, int answer, String meaning) throws ReflectiveOperationException {
        String call = name + "(" + given + ")";
        for (Method method : methods()) {
            if (method.getName().equals(name)) {
                shown.add(name);
                CHECK.due(call, (int) method.invoke(x, values(given)), answer);
            }
        }
        CHECK.due(call + " is of the face", shown.contains(name) ? 1 : 0, 1);
        Matcher quoted = QUOTED.matcher(meaning);
        if (quoted.matches()) {
            CHECK.due("what " + call + " writes", Check.written(x), quoted.group(1));
        }
    }

    private Object[] values(String given) {
        Matcher fed = FED.matcher(given);
        if (fed.matches()) {
            return new Object[] {Check.feed(x, fed.group(1))};
        }
        if (given.isEmpty()) {
            return new Object[0];
        }
        String[] words = given.split(", ");
        Object[] values = new Object[words.length];
        for (int k = 0; k < words.length; k++) {
            boolean isTruth = words[k].equals("true") || words[k].equals("false");
            values[k] = isTruth ? (Object) Boolean.valueOf(words[k]) : (Object) Integer.valueOf(words[k]);
        }
        return values;
    }
}

import java.io.IOException;
import java.lang.reflect.Method;
import java.lang.reflect.Modifier;
import java.nio.charset.StandardCharsets;
import java.nio.file.Files;
import java.nio.file.Path;
import java.util.regex.Matcher;
import java.util.regex.Pattern;

/** What README.md shows is what the class answers, and each call of the face is named in it. */
public final class ReadmeTests {
    private static final Due DUE = new Due("ReadmeTests");
    private static final Pattern SHOWN = Pattern.compile("(?m)^    x\\.(.*)$");
    private static final Pattern CALL = Pattern.compile("(\\w+\\(.*?\\)); *// (\\S+): .*");
    private static final Pattern TOLD = Pattern.compile("(?m)^\\| (\\d) [A-Z]+ \\| `([^`]+)` \\|");

    private ReadmeTests() {
    }

    private static void shownCalls(String readme) {
        StringBuilder calls = new StringBuilder();
        int shown = 0;
        for (Matcher line = SHOWN.matcher(readme); line.find();) {
            Matcher call = CALL.matcher(line.group(1));
            boolean whole = call.matches();
            DUE.is("'" + line.group(1) + "' is a call with its answer", whole ? 1 : 0, 1);
            if (whole) {
                calls.append(byNumbers(call.group(1))).append('=').append(call.group(2)).append(' ');
                shown++;
            }
        }
        DUE.is("calls are shown", shown > 20 ? 1 : 0, 1);
        new Calls(DUE, new StepOrders()).make("README.md", calls.toString());
    }

    /** The call with the number of each byte that stands in it between quotes. */
    private static String byNumbers(String call) {
        return Pattern.compile("'(.)'").matcher(call).replaceAll(m -> "" + (int) m.group(1).charAt(0));
    }

    private static void toldSteps(String readme) {
        int sorts = 0;
        for (Matcher row = TOLD.matcher(readme); row.find(); sorts++) {
            new Calls(DUE, new StepOrders()).make("README.md", "text[" + row.group(2) + "]=1 of(0,0,0)=" + row.group(1));
        }
        DUE.is("sorts in the table", sorts, 6);
    }

    private static void allNamed(String readme) {
        for (Method m : StepOrders.class.getDeclaredMethods()) {
            if (Modifier.isPublic(m.getModifiers())) {
                boolean named = Pattern.compile("(?m)^\\| .*`" + m.getName() + "\\(.*\\)`.* \\|").matcher(readme).find();
                DUE.is(m.getName() + " stands in the table of calls", named ? 1 : 0, 1);
            }
        }
    }

    public static void main(String[] args) throws IOException {
        String readme = Files.readString(Path.of("README.md"), StandardCharsets.UTF_8);
        shownCalls(readme);
        toldSteps(readme);
        allNamed(readme);
        DUE.end();
    }
}

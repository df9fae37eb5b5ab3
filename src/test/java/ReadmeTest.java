import java.nio.file.Files;
import java.nio.file.Path;
import java.util.Arrays;
import java.util.regex.Matcher;
import java.util.regex.Pattern;
import java.util.stream.Stream;

/** README.md's example answers what is written beside it, and has every call, as its table has. */
public final class ReadmeTest {
    private static final Pattern MADE = Pattern.compile("(?m)^RootWeights x = new RootWeights\\((\\d+)\\);");
    private static final Pattern ANSWERED = Pattern.compile("(?m)^x\\.(\\w+)\\(([^)]*)\\); +// (-?\\d+)");

    public static void main(String[] args) throws Exception {
        Check check = new Check("README.md");
        String text = Files.readString(Path.of("README.md"));
        Matcher made = MADE.matcher(text);
        check.holds("an object is made", made.find());
        RootWeights x = new RootWeights(Integer.parseInt(made.group(1)));
        ANSWERED.matcher(text).results().forEach(row ->
                check.due(row.group(), answer(x, row.group(1), row.group(2)), Integer.parseInt(row.group(3))));
        for (FaceCall each : FaceCall.ALL) {
            check.holds("the example has " + each.name(), text.contains("\nx." + each.name() + "("));
            check.holds("the table has " + each.name(), text.contains("\n| `" + each.name() + "("));
        }
        check.end();
    }

    private static int answer(RootWeights x, String name, String written) {
        int[] given = Stream.of(written.split(", ")).filter(number -> !number.isEmpty())
                .mapToInt(Integer::parseInt).toArray();
        int[] two = Arrays.copyOf(given, 2);
        for (FaceCall each : FaceCall.ALL) {
            if (each.name().equals(name)) {
                return each.of(x, two[0], two[1]);
            }
        }
        throw new IllegalArgumentException("no call " + name);
    }
}

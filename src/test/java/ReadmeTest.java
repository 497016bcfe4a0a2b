import java.io.IOException;
import java.nio.file.Files;
import java.nio.file.Path;
import java.util.Set;
import java.util.TreeSet;
import java.util.regex.Matcher;
import java.util.regex.Pattern;

/** The calls that README.md shows, one behind the other on one object: each answers what stands behind it. */
public final class ReadmeTest {
    private static final Due DUE = new Due();
    private static final Pattern CALL = Pattern.compile("gauge\\.(\\w+)\\((.*?)\\); *// (-?\\d+):");

    public static void main(String[] args) throws IOException {
        String text = Files.readString(Path.of("README.md"));
        int shown = calls(text);
        DUE.due("all calls that are shown were made", shown, text.split("gauge\\.", -1).length - 1);
        everyCallIsNamed(text);
        DUE.close("ReadmeTest");
    }

    private static int calls(String text) {
        OrderGauge gauge = new OrderGauge();
        Matcher call = CALL.matcher(text);
        int shown = 0;
        while (call.find()) {
            shown++;
            DUE.due(call.group(), Calls.toGauge(gauge, call.group(1), numbers(call.group(2))), Integer.parseInt(call.group(3)));
        }
        return shown;
    }

    private static int[] numbers(String list) {
        int[] numbers = new int[5];
        String[] parts = list.isEmpty() ? new String[0] : list.split(", ");
        for (int i = 0; i < parts.length; i++) {
            numbers[i] = Integer.decode(parts[i]);
        }
        return numbers;
    }

    private static void everyCallIsNamed(String text) {
        Set<String> named = new TreeSet<>();
        Matcher name = Pattern.compile("`(\\w+)`").matcher(text);
        while (name.find()) {
            named.add(name.group(1));
        }
        for (String call : Calls.NAMES) {
            DUE.holds("README.md names " + call, named.contains(call));
        }
    }
}

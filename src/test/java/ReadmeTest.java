import java.io.IOException;
import java.nio.file.Files;
import java.nio.file.Path;
import java.util.ArrayList;
import java.util.Arrays;
import java.util.HashMap;
import java.util.List;
import java.util.Map;
import java.util.regex.Matcher;
import java.util.regex.Pattern;

/** README.md tells how the class is used: its examples are played, and its table must name each call once. */
public final class ReadmeTest {
    private static final Pattern STEP = Pattern.compile("(?:int (\\w+) = )?vault\\.(\\w+)\\((.*?)\\);\\s+// ([\\w-]+).*");
    private static final Pattern ROW = Pattern.compile("`(\\w+)\\((.*?)\\)` (\\d+)");
    private static final String[] CALLS = {"unlock", "lock", "put", "erase", "get", "change", "pull", "push", "deliver",
        "drop", "message", "flight", "forge", "plant", "build", "leak", "steal", "known", "term", "atom", "device",
        "server"};

    private final Checks checks = new Checks();
    private final Map<String, Integer> names = new HashMap<>();
    private VaultDevices vault;

    public static void main(String[] args) throws IOException {
        ReadmeTest test = new ReadmeTest();
        List<String> lines = Files.readAllLines(Path.of("README.md"));
        test.examples(lines);
        test.table(lines);
        test.checks.end();
    }

    private void examples(List<String> lines) {
        checks.about("README.md, the examples");
        int played = 0;
        for (String line : lines) {
            Matcher step = STEP.matcher(line);
            if (line.equals("VaultDevices vault = new VaultDevices();")) {
                vault = new VaultDevices();
                names.clear();
            } else if (step.matches()) {
                play(step);
                played++;
            } else if (line.startsWith("vault.") || line.startsWith("int ")) {
                checks.tell("no answer is told in: " + line);
            }
        }
        checks.due("there are examples", played > 0, true);
    }

    private void play(Matcher step) {
        int[] a = step.group(3).isEmpty() ? new int[0]
                : Arrays.stream(step.group(3).split(", ")).mapToInt(this::value).toArray();
        int answer = Calls.on(vault, step.group(2), a);
        checks.due(step.group(), answer, value(step.group(4)));
        if (step.group(1) != null) {
            names.put(step.group(1), answer);
        }
    }

    private int value(String text) {
        if (names.containsKey(text)) {
            return names.get(text);
        }
        return text.equals("true") ? 1 : text.equals("false") ? 0 : Integer.parseInt(text);
    }

    /** The calls stand in the order of their promises, the first of them being promise 2. */
    private void table(List<String> lines) {
        checks.about("README.md, the table of the calls");
        List<String> named = new ArrayList<>();
        for (String line : lines) {
            Matcher row = ROW.matcher(line);
            while (line.startsWith("| ") && row.find()) {
                named.add(row.group(1));
                checks.due("the promise of " + row.group(1), Integer.parseInt(row.group(3)), named.size() + 1);
            }
        }
        if (!named.equals(Arrays.asList(CALLS))) {
            checks.tell("the calls are " + named);
        }
    }
}

import java.io.IOException;
import java.lang.reflect.Method;
import java.lang.reflect.Modifier;
import java.nio.file.Files;
import java.nio.file.Path;
import java.util.List;
import java.util.regex.Matcher;
import java.util.regex.Pattern;

/** README.md tells what the calls in its examples answer: they are called, and it is looked at that no call is left out. */
public final class ReadmeTest {
    private static final Path FILE = Path.of("README.md");
    private static final Pattern CALL = Pattern.compile("pool\\.(\\w+)\\(([^)]*)\\);\\s+// (-?\\d+|[A-Z_]+)(:.*)?");
    private static final int EXAMPLES = 2;

    public static void main(String[] args) throws IOException {
        List<String> lines = Files.readAllLines(FILE);
        examples(lines);
        everyCallIsNamed(String.join("\n", lines));
        Calls.end();
    }

    private static void examples(List<String> lines) {
        CoalWagons pool = null;
        int examples = 0;
        for (String line : lines) {
            if (line.equals("CoalWagons pool = new CoalWagons();")) {
                pool = new CoalWagons();
                examples++;
            } else if (line.startsWith("pool.")) {
                example(pool, line);
            }
        }
        Calls.due("examples in " + FILE, examples, EXAMPLES);
    }

    private static void example(CoalWagons pool, String line) {
        Matcher call = CALL.matcher(line);
        if (pool == null || !call.matches()) {
            Calls.due(line + " is a call with its answer", 0, 1);
            return;
        }
        String[] told = call.group(2).isEmpty() ? new String[0] : call.group(2).split(", ");
        int[] a = new int[told.length];
        for (int k = 0; k < told.length; k++) {
            a[k] = told[k].startsWith("'") ? told[k].charAt(1) : Integer.parseInt(told[k]);
        }
        Calls.due(line, Calls.answer(pool, call.group(1), a), answer(call.group(3)));
    }

    private static int answer(String told) {
        switch (told) {
            case "INVALID_ARGUMENT": return CoalWagons.INVALID_ARGUMENT;
            case "NOT_POSSIBLE": return CoalWagons.NOT_POSSIBLE;
            case "LIMIT_REACHED": return CoalWagons.LIMIT_REACHED;
            case "NOT_FOUND": return CoalWagons.NOT_FOUND;
            default: return Integer.parseInt(told);
        }
    }

    private static void everyCallIsNamed(String all) {
        for (Method m : CoalWagons.class.getDeclaredMethods()) {
            if (Modifier.isPublic(m.getModifiers())) {
                Calls.due(FILE + " names " + m.getName(), all.contains("`" + m.getName() + "`") ? 1 : 0, 1);
            }
        }
    }
}

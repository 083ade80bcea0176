import java.io.IOException;
import java.lang.reflect.Method;
import java.lang.reflect.Modifier;
import java.nio.charset.StandardCharsets;
import java.nio.file.Files;
import java.nio.file.Path;
import java.util.Map;
import java.util.TreeMap;
import java.util.regex.Matcher;
import java.util.regex.Pattern;

/** The calls in README.md answer what stands behind them, and it names every call. Runs in the project's folder. */
public final class ReadmeTest {
    private static final Path README = Path.of("README.md");
    private static final Pattern ROW =
        Pattern.compile("(?:int (\\w+) = )?g\\.(\\w+)\\(([^)]*)\\);\\s+// (NONE|-?\\d+)(?::.*)?");
    private static final Map<String, Integer> NAMES = new TreeMap<>(Map.of("NONE", GasTurn.NONE));

    public static void main(String[] args) throws IOException {
        Due due = new Due();
        String text = Files.readString(README, StandardCharsets.UTF_8);
        GasTurn g = null;
        boolean code = false;
        for (String line : text.split("\n")) {
            if (line.startsWith("```")) {
                code = line.equals("```java");
            } else if (code && line.equals("GasTurn g = new GasTurn();")) {
                g = new GasTurn();
            } else if (code) {
                answer(due, g, line);
            }
        }
        due.holds("README.md makes an object", g != null);
        for (Method m : GasTurn.class.getDeclaredMethods()) {
            boolean open = Modifier.isPublic(m.getModifiers());
            if (open) due.holds("README.md names " + m.getName(), text.contains("`" + m.getName() + "`"));
        }
        due.end();
    }

    private static void answer(Due due, GasTurn g, String line) {
        Matcher row = ROW.matcher(line);
        boolean read = g != null && row.matches();
        due.holds("README.md, a row that can be read: " + line, read);
        if (!read) return;
        String inside = row.group(3);
        String[] parts = inside.isEmpty() ? new String[0] : inside.split(", *");
        int[] numbers = new int[parts.length];
        for (int i = 0; i < parts.length; i++) numbers[i] = number(parts[i]);
        int got = new Call(row.group(2), numbers).on(g);
        due.is("README.md: " + line, got, number(row.group(4)));
        if (row.group(1) != null) NAMES.put(row.group(1), got);
    }

    private static int number(String text) {
        Integer named = NAMES.get(text);
        return named != null ? named : Long.decode(text).intValue();
    }
}

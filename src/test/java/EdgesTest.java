import java.io.IOException;
import java.nio.charset.StandardCharsets;
import java.nio.file.Files;
import java.nio.file.Path;
import java.util.ArrayList;
import java.util.List;
import java.util.TreeMap;
import java.util.stream.Stream;

/**
 * The edges of every promise, as they are told in src/test/edges (README.md there): each run names the sentences of
 * the document that it tests, every refused call is looked at by Twins, and no sentence may be left without a run.
 * Runs in the project's folder.
 */
public final class EdgesTest {
    private static final Path EDGES = Path.of("src/test/edges");
    private static final Path DOCUMENT = Path.of("../shared/DOC.md");

    private final Due due = new Due();
    private final TreeMap<String, Sentences> parts = new TreeMap<>();
    private final TreeMap<String, EdgeRun> beginnings = new TreeMap<>();
    private int refused;

    public static void main(String[] args) throws IOException {
        EdgesTest test = new EdgesTest();
        test.readDocument();
        List<Path> files = new ArrayList<>();
        try (Stream<Path> there = Files.list(EDGES)) {
            there.filter(f -> f.toString().endsWith(".txt")).sorted().forEach(files::add);
        }
        for (Path file : files) test.readFile(file);
        for (Sentences part : test.parts.values()) part.lookForUntested(test.due);
        System.out.println(test.refused + " refused calls looked at by twins");
        test.due.end();
    }

    private void readDocument() throws IOException {
        String title = "";
        StringBuilder text = new StringBuilder();
        for (String line : Files.readAllLines(DOCUMENT, StandardCharsets.UTF_8)) {
            if (line.startsWith("## ")) {
                keep(title, text.toString());
                title = line.substring(3);
                text.setLength(0);
            } else if (!line.startsWith("```") && !line.startsWith("Ahead of the calls")) {
                text.append(line).append('\n');
            }
        }
        keep(title, text.toString());
    }

    private void keep(String title, String text) {
        if (title.equals("Terms")) parts.put(title, new Sentences(title, text.replaceAll("==== \\d", "")));
        if (!title.startsWith("Promise ")) return;
        String number = title.substring("Promise ".length(), title.indexOf(':'));
        // ahead of the sentences stands the call, as in the face
        parts.put(number, new Sentences(number, text.substring(text.indexOf("`:") + 2)));
    }

    private void readFile(Path file) throws IOException {
        String number = "";
        EdgeRun run = null;
        int at = 0;
        for (String whole : Files.readAllLines(file, StandardCharsets.UTF_8)) {
            at++;
            String line = whole.replaceAll("\\s+#.*", "").trim();
            String place = file.getFileName() + " " + at;
            if (line.startsWith("#") && !line.startsWith("##")) continue;
            if (line.startsWith("## ")) {
                number = line.substring(3);
            } else if (line.isEmpty()) {
                if (run != null) carryOut(run);
                run = null;
            } else if (line.startsWith("let ")) {
                run = new EdgeRun(place);
                beginnings.put(line.substring(4), run);
            } else if (line.startsWith("> ")) {
                if (run == null) run = new EdgeRun(number + " (" + place + ")");
                markTested(number, line.substring(2), place);
            } else {
                addRow(run, line, place);
            }
        }
        if (run != null) carryOut(run);
    }

    private void addRow(EdgeRun run, String line, String place) {
        if (run == null) throw new IllegalArgumentException(place + ": a row without a sentence: " + line);
        if (!line.startsWith("with ")) {
            run.read(line);
            return;
        }
        EdgeRun beginning = beginnings.get(line.substring(5));
        if (beginning == null) throw new IllegalArgumentException(place + ": no such beginning: " + line);
        run.rows.addAll(beginning.rows);
    }

    private void markTested(String number, String sentence, String place) {
        boolean own = parts.containsKey(number) && parts.get(number).mark(sentence);
        boolean said = own || parts.get("Terms").mark(sentence);
        due.holds(place + ": the document says: " + sentence, said);
    }

    private void carryOut(EdgeRun run) {
        GasTurn g = new GasTurn();
        List<Call> before = new ArrayList<>();
        Twins twins = null;
        int calls = 0;
        for (EdgeRun.Row row : run.rows) {
            due.is(run.place + ": " + row.call(), row.call().on(g), row.due());
            calls++;
            if (!row.refused()) {
                before.add(row.call());
                twins = null;
                continue;
            }
            if (twins == null) twins = new Twins(before);
            refused++;
            String unlike = twins.unlike(row.call());
            due.holds(run.place + ": " + row.call() + " changes nothing, but " + unlike, unlike == null);
        }
        due.holds(run.place + ": no more calls than an object is good for: " + calls, calls <= Twins.CALLS);
        due.holds(run.place + ": a run has rows", calls > 0);
    }
}

import java.util.ArrayList;
import java.util.List;

/** A run of rows on a new object, under the sentences of the document that it tests. */
final class EdgeRun {
    /** What is due: the answer; and whether the call is refused, so that it may change nothing. */
    record Row(Call call, int due, boolean refused) { }

    /** The most that one feed() takes. */
    private static final int BYTES = 4;

    final String place;
    final List<Row> rows = new ArrayList<>();

    EdgeRun(String place) {
        this.place = place;
    }

    void read(String line) {
        if (line.startsWith("law ") || line.startsWith("feed \"")) {
            readText(line);
            return;
        }
        boolean refused = line.contains(" ! ");
        String[] parts = line.split(refused ? " ! " : " = ", 2);
        if (parts.length < 2) throw new IllegalArgumentException(place + ": no answer: " + line);
        for (String call : eachOf(parts[0].trim())) add(callOf(call), parts[1].trim(), refused);
    }

    private void readText(String line) {
        int start = line.indexOf('"');
        int end = line.lastIndexOf('"');
        String text = line.substring(start + 1, end);
        String rest = line.substring(end + 1).trim();
        int fed = fed();
        for (int at = 0; at < text.length(); at += BYTES) {
            int n = Math.min(BYTES, text.length() - at);
            int bytes = 0;
            for (int i = 0; i < n; i++) bytes = bytes << 8 | text.charAt(at + i);
            fed += n;
            rows.add(new Row(new Call("feed", bytes, n), fed, false));
        }
        String answer = rest.substring(1).trim();
        if (line.startsWith("law")) add(new Call("law"), answer, rest.startsWith("!"));
        else if (fed != number(answer)) throw new IllegalArgumentException(place + ": it is " + fed + ": " + line);
    }

    /** How many bytes the tape has, as far as the rows tell. */
    private int fed() {
        for (int i = rows.size() - 1; i >= 0; i--) {
            Row r = rows.get(i);
            if (r.refused) continue;
            if (r.call.name().equals("law")) return 0;
            if (r.call.name().equals("feed")) return r.due;
        }
        return 0;
    }

    private void add(Call call, String answer, boolean refused) {
        if (answer.contains(" .. ")) {
            String[] ends = answer.split(" \\.\\. ");
            for (int due = number(ends[0]); due <= number(ends[1]); due++) rows.add(new Row(call, due, refused));
        } else if (answer.contains(" * ")) {
            String[] parts = answer.split(" \\* ");
            for (int i = 0; i < number(parts[1]); i++) rows.add(new Row(call, number(parts[0]), refused));
        } else {
            rows.add(new Row(call, number(answer), refused));
        }
    }

    /** A call with {a|b} in it is told once for each. */
    private static List<String> eachOf(String call) {
        int start = call.indexOf('{');
        if (start < 0) return List.of(call);
        int end = call.indexOf('}', start);
        List<String> all = new ArrayList<>();
        for (String one : call.substring(start + 1, end).split("\\|")) {
            all.addAll(eachOf(call.substring(0, start) + one + call.substring(end + 1)));
        }
        return all;
    }

    private Call callOf(String text) {
        int start = text.indexOf('(');
        int end = text.lastIndexOf(')');
        if (start < 0 || end != text.length() - 1) throw new IllegalArgumentException(place + ": no call: " + text);
        String inside = text.substring(start + 1, end).trim();
        String[] parts = inside.isEmpty() ? new String[0] : inside.split(",");
        int[] numbers = new int[parts.length];
        for (int i = 0; i < parts.length; i++) numbers[i] = number(parts[i].trim());
        String name = text.substring(0, start);
        if (!Call.isThere(name, numbers.length)) throw new IllegalArgumentException(place + ": no such call: " + text);
        return new Call(name, numbers);
    }

    private static int number(String text) {
        switch (text) {
            case "MIN": return Integer.MIN_VALUE;
            case "MAX": return Integer.MAX_VALUE;
            case "NONE": return GasTurn.NONE;
            case "BAD": return GasTurn.BAD;
            case "STATE": return GasTurn.STATE;
            case "FULL": return GasTurn.FULL;
            default: return Long.decode(text).intValue();
        }
    }
}

/** A part of the document, and what of it is named by tests. */
final class Sentences {
    private final String title;
    private final String text;
    private final boolean[] tested;

    Sentences(String title, String text) {
        this.title = title;
        this.text = text.replaceAll("\\s+", " ").trim();
        this.tested = new boolean[this.text.length()];
    }

    /** Whether the words stand here; they are tested then. */
    boolean mark(String words) {
        boolean there = false;
        for (int at = text.indexOf(words); at >= 0; at = text.indexOf(words, at + 1)) {
            there = true;
            for (int i = at; i < at + words.length(); i++) tested[i] = true;
        }
        return there;
    }

    void lookForUntested(Due due) {
        StringBuilder left = new StringBuilder();
        for (int i = 0; i <= text.length(); i++) {
            if (i < text.length() && !tested[i]) {
                left.append(text.charAt(i));
                continue;
            }
            if (left.toString().matches(".*[A-Za-z0-9].*")) due.holds(title + ": no test of: " + left, false);
            left.setLength(0);
        }
    }
}

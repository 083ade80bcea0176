/** Counts and prints the answers that are not as due; a test ends with exit code 1 if there was one. */
final class Due {
    private int asked;
    private int wrong;

    void is(String what, long got, long want) {
        asked++;
        if (got == want) return;
        wrong++;
        System.out.println(what + " answered " + got + ", due is " + want);
    }

    void holds(String what, boolean so) {
        is(what, so ? 1 : 0, 1);
    }

    void end() {
        System.out.println(asked + " answers looked at, " + wrong + " not as due");
        if (wrong != 0) System.exit(1);
    }

    /** Puts a text on the tape; the answer is the last one of feed(). */
    static int feed(GasTurn g, String text) {
        int answer = g.count(14);
        for (int i = 0; i < text.length(); i++) answer = g.feed(text.charAt(i), 1);
        return answer;
    }

    static int law(GasTurn g, String text) {
        feed(g, text);
        return g.law();
    }

    static void knots(GasTurn g, int n) {
        for (int i = 0; i < n; i++) g.knot();
    }

    static final int[] FAR = {Integer.MIN_VALUE, -1000000, -2, -1, 1000000, Integer.MAX_VALUE};
}

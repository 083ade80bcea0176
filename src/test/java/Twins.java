import java.util.ArrayList;
import java.util.List;

/**
 * Looks whether a refused call has changed anything: of two objects with the same calls behind them one has the
 * refused call in addition; whatever is asked of both, and whatever is done with both, must be answered alike.
 * An object is good for 512 calls, so the questions are asked of fresh twins, some at a time.
 */
final class Twins {
    static final int CALLS = 512;
    private static final int FAR = Integer.MAX_VALUE;

    private final List<Call> before;
    private final List<List<Call>> questions = new ArrayList<>();
    private final List<int[]> due = new ArrayList<>();

    Twins(List<Call> before) {
        this.before = List.copyOf(before);
        GasTurn g = made();
        List<Call> reads = reads(g);
        // one call is kept for the refused one
        int room = CALLS - 1 - before.size();
        for (int i = 0; i < reads.size() && room > 0; i += room) {
            questions.add(reads.subList(i, Math.min(i + room, reads.size())));
        }
        for (List<Call> some : List.of(settings(), additions(), sheets(g), weeks(g), lastWeek(), turn(g), smells(g),
            acts(g))) {
            questions.add(some.subList(0, Math.min(some.size(), room)));
        }
        for (List<Call> some : questions) due.add(answers(made(), some));
    }

    /** The first call that is answered in another way behind the refused one; null if there is none. */
    String unlike(Call refused) {
        for (int q = 0; q < questions.size(); q++) {
            GasTurn g = made();
            refused.on(g);
            List<Call> some = questions.get(q);
            int[] got = answers(g, some);
            for (int i = 0; i < got.length; i++) {
                int want = due.get(q)[i];
                if (got[i] != want) return some.get(i) + " answered " + got[i] + " then, and " + want + " without it";
            }
        }
        return null;
    }

    private GasTurn made() {
        GasTurn g = new GasTurn();
        for (Call c : before) c.on(g);
        return g;
    }

    private static int[] answers(GasTurn g, List<Call> some) {
        int[] got = new int[some.size()];
        for (int i = 0; i < got.length; i++) got[i] = some.get(i).on(g);
        return got;
    }

    private static void ask(List<Call> to, String name, int n) {
        for (int i = 0; i < n; i++) to.add(new Call(name, i));
    }

    private static void ask(List<Call> to, String name, int n, int whats) {
        for (int i = 0; i < n; i++) for (int what = 0; what < whats; what++) to.add(new Call(name, i, what));
    }

    private static List<Call> reads(GasTurn g) {
        List<Call> all = new ArrayList<>();
        int knots = g.count(0);
        int homes = g.count(4);
        ask(all, "count", 18);
        ask(all, "trace", 10);
        ask(all, "bestAt", 7);
        ask(all, "pipeOf", g.count(1), 4);
        ask(all, "work", g.count(2), 5);
        for (String name : new String[] {"gas", "area", "pressure"}) ask(all, name, knots);
        ask(all, "homeOf", homes, 8);
        ask(all, "bill", homes);
        for (int h = 0; h < homes; h++) all.add(new Call("known", h, FAR));
        for (int k = 0; k < Math.min(g.count(5), 12); k++) {
            for (int h = 0; h < Math.min(homes, 2); h++) all.add(new Call("known", h, k));
        }
        ask(all, "why", g.count(7));
        ask(all, "shortOf", 5, 2);
        for (int s = 0; s < g.count(7); s++) {
            for (int jet = 0; jet < 5; jet++) {
                all.add(new Call("need", s, jet, FAR, 0));
                all.add(new Call("need", s, jet, FAR, 1));
            }
        }
        ask(all, "smellOf", g.count(10), 5);
        ask(all, "taken", g.count(3), 4);
        for (int m = 0; m < g.count(3); m++) all.add(new Call("beyond", m, 5000));
        all.add(new Call("danger"));
        return all;
    }

    private static List<Call> settings() {
        List<Call> all = new ArrayList<>();
        all.add(new Call("limit", 0));
        all.add(new Call("terminal", -1));
        for (int i = 0; i < 4; i++) all.add(new Call("step", i, i + 1));
        for (int jet = 0; jet < 5; jet++) all.add(new Call("stock", jet, 0));
        ask(all, "plan", 7);
        all.add(new Call("unplan"));
        all.add(new Call("law"));
        return all;
    }

    private static List<Call> additions() {
        List<Call> all = new ArrayList<>();
        all.add(new Call("feed", ' ', 1));
        all.add(new Call("law"));
        all.add(new Call("knot"));
        all.add(new Call("pipe", 0, 1, 1));
        all.add(new Call("works", 0, 1, 1));
        all.add(new Call("model", 0, 0, 1, 1, 0));
        all.add(new Call("home", 0, 1, 31, 0));
        all.add(new Call("survey", 0, 1));
        all.add(new Call("order", 0, 1, 200));
        for (int k = 0; k < 12; k++) all.add(new Call("sector", 1 << k));
        all.add(new Call("fitter", 15, 10, 0));
        all.add(new Call("best"));
        ask(all, "bestAt", 7);
        return all;
    }

    /** Items are seen as surveys: of a home, which needs a knot, and of as many models as there can be. */
    private static List<Call> sheets(GasTurn g) {
        List<Call> all = new ArrayList<>();
        for (int i = g.count(3); i < 12; i++) all.add(new Call("model", 0, 0, 1, 1, 0));
        if (g.count(0) == 0) all.add(new Call("knot"));
        if (g.count(4) == 0) all.add(new Call("home", 0, 1, 31, 0));
        for (int sheet = 0; sheet < 3; sheet++) {
            for (int sort = 0; sort < 3; sort++) {
                for (int i : new int[] {0, 1, 2, 3, 4, 39}) {
                    all.add(new Call("lay", 0, sheet, sort, i));
                    all.add(new Call("known", 0, FAR));
                }
            }
            for (int i = 0; i <= 40; i += 5) all.add(new Call("cell", sheet, i, 1));
        }
        return all;
    }

    private static List<Call> weeks(GasTurn g) {
        List<Call> all = new ArrayList<>();
        for (int w = 0; w < 20; w++) {
            ask(all, "why", g.count(7));
            for (int jet = 0; jet < 5; jet++) all.add(new Call("stock", jet, 0));
            ask(all, "work", g.count(2), 4);
            all.add(new Call("week"));
        }
        return all;
    }

    private static List<Call> lastWeek() {
        List<Call> all = new ArrayList<>();
        for (int w = 0; w < 200; w++) all.add(new Call("week"));
        for (int jet = 0; jet < 5; jet++) all.add(new Call("stock", jet, 0));
        return all;
    }

    private static List<Call> turn(GasTurn g) {
        List<Call> all = new ArrayList<>();
        for (int jet = 0; jet < 5; jet++) all.add(new Call("stock", jet, 20));
        for (int s = 0; s < g.count(7); s++) {
            all.add(new Call("change", s));
            ask(all, "pipeOf", g.count(1), 4);
        }
        for (int f = 0; f < g.count(9); f++) all.add(new Call("later", f, f));
        ask(all, "homeOf", g.count(4), 7);
        return all;
    }

    private static List<Call> smells(GasTurn g) {
        List<Call> all = new ArrayList<>();
        all.add(new Call("smell", 0, 0));
        for (int h = 0; h < g.count(4); h++) all.add(new Call("smell", h, 9999));
        ask(all, "smellOf", 30, 4);
        return all;
    }

    private static List<Call> acts(GasTurn g) {
        List<Call> all = new ArrayList<>();
        for (int m = 0; m < g.count(3); m++) {
            all.add(new Call("act", m, 2, 1000));
            ask(all, "trace", 10);
        }
        return all;
    }
}

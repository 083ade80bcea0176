/** Promises 22 to 30: jets, sectors, the best row, the plan. */
public final class SectorsTest {
    private static final Due DUE = new Due();

    public static void main(String[] args) {
        stock();
        orders();
        sectors();
        whyBorder();
        whyFed();
        whyStays();
        whyBarred();
        whyChanged();
        bestOfRing();
        bestLesserFirst();
        bestIsKept();
        bestLeavesLawsAside();
        bestOfSeven();
        plan();
        shortage();
        shortageOverWeeks();
        DUE.end();
    }

    private static void stock() {
        GasTurn g = new GasTurn();
        DUE.is("22: up", g.stock(0, 9999), 9999);
        DUE.is("22: beyond", g.stock(0, 1), -2);
        DUE.is("22: down", g.stock(0, -9999), 0);
        DUE.is("22: below", g.stock(0, -1), -2);
        DUE.is("22: too far", g.stock(0, 10000), -2);
        DUE.is("22: too far", g.stock(0, -10000), -2);
        DUE.is("22: none", g.stock(5, 0), -1);
        DUE.is("22: none ahead of bad", g.stock(-1, 10000), -1);
        DUE.is("22: kinds are apart", g.stock(4, 7), 7);
        DUE.is("22: kinds are apart", g.stock(3, 0), 0);
        for (int far : new int[] {Integer.MIN_VALUE, Integer.MAX_VALUE}) {
            DUE.is("22: none", g.stock(far, 0), -1);
            DUE.is("22: far", g.stock(4, far), -2);
        }
        DUE.is("22: refused changed nothing", g.stock(4, 0), 7);
    }

    private static void orders() {
        GasTurn g = new GasTurn();
        DUE.is("23: week 0", g.order(0, 1, 0), -2);
        DUE.is("23: week 201", g.order(0, 1, 201), -2);
        DUE.is("23: n 0", g.order(0, 0, 1), -2);
        DUE.is("23: n 1000", g.order(0, 1000, 1), -2);
        DUE.is("23: none ahead of bad", g.order(5, 0, 0), -1);
        for (int far : Due.FAR) {
            DUE.is("23: jet", g.order(far, 1, 1), -1);
            DUE.is("23: n", g.order(0, far, 1), -2);
            DUE.is("23: week", g.order(0, 1, far), -2);
        }
        DUE.is("23: first", g.order(0, 1, 1), 0);
        DUE.is("23: most", g.order(4, 999, 200), 1);
        DUE.is("23: the same week", g.order(0, 5, 1), 2);
        DUE.is("23: not there yet", g.stock(0, 0), 0);
        g.week();
        DUE.is("23: there", g.stock(0, 0), 6);
        DUE.is("23: of its kind alone", g.stock(4, 0), 0);
        DUE.is("23: week 1 is now", g.order(0, 1, 1), -2);
        g.order(0, 999, 2);
        g.stock(0, 9000);
        g.week();
        DUE.is("23: 9999 at most", g.stock(0, 0), 9999);
        g.week();
        DUE.is("23: comes once", g.stock(0, -9999), 0);
        for (int i = 4; i < 30; i++) DUE.is("23: order", g.order(1, 1, 9), i);
        DUE.is("23: full", g.order(1, 1, 9), -4);
        DUE.is("23: bad ahead of full", g.order(1, 1, 3), -2);
        DUE.is("23: none ahead of full", g.order(7, 1, 9), -1);
        DUE.is("23: count", g.count(6), 30);
    }

    private static void sectors() {
        GasTurn g = new GasTurn();
        DUE.is("24: a bit of no knot", g.sector(1), -2);
        Due.knots(g, 8);
        DUE.is("24: empty", g.sector(0), -2);
        DUE.is("24: bit 8", g.sector(256), -2);
        DUE.is("24: bit 31", g.sector(Integer.MIN_VALUE), -2);
        DUE.is("24: all bits", g.sector(-1), -2);
        DUE.is("24: two knots", g.sector(5), 0);
        DUE.is("24: in another one", g.sector(6), -3);
        DUE.is("24: bad ahead of state", g.sector(257), -2);
        for (int i = 1; i < 7; i++) DUE.is("24: sector", g.sector(1 << (i == 1 ? 1 : i + 1)), i);
        DUE.is("24: all are taken", g.sector(128), -3);
        Due.knots(g, 1);
        DUE.is("24: full", g.sector(256), -4);
        DUE.is("24: state ahead of full", g.sector(257), -3);
        DUE.is("24: count", g.count(7), 7);
    }

    /** Knots in a chain with valves, each a sector of its own, the terminal at knot 0. */
    private static GasTurn chain(int n) {
        GasTurn g = new GasTurn();
        Due.knots(g, n);
        for (int k = 1; k < n; k++) g.pipe(k - 1, k, 1);
        for (int k = 0; k < n && k < 7; k++) g.sector(1 << k);
        g.terminal(0);
        g.model(0, 0, 1, 1, 0);
        return g;
    }

    private static void whyBorder() {
        GasTurn g = chain(3);
        DUE.is("25: may", g.why(0), 0);
        DUE.is("25: none", g.why(3), -1);
        for (int far : Due.FAR) DUE.is("25: none", g.why(far), -1);
        g.pipe(0, 2, 0);
        DUE.is("25: no valve", g.why(0), 2);
        DUE.is("25: border ahead of fed", g.why(2), 2);
        DUE.is("25: not at its border", g.why(1), 3);
        GasTurn first = new GasTurn();
        Due.knots(first, 2);
        first.pipe(0, 1, 0);
        first.sector(1);
        first.terminal(0);
        DUE.is("25: pipe 0 has none", first.why(0), 2);
        GasTurn lost = chain(3);
        lost.change(0);
        DUE.is("25: may", lost.why(1), 0);
        lost.pipe(2, 0, 1);
        DUE.is("25: may still", lost.why(1), 0);
        lost.lost(2);
        DUE.is("25: at the border of what is changed", lost.why(1), 2);
        DUE.is("25: inside then", lost.why(2), 0);
    }

    private static void whyFed() {
        GasTurn g = chain(4);
        DUE.is("25: apart", g.why(1), 3);
        g.terminal(-1);
        DUE.is("25: no terminal", g.why(0), 3);
        g.terminal(1);
        DUE.is("25: the terminal is outside", g.why(0), 3);
        DUE.is("25: it is inside", g.why(1), 0);
        g.valve(0, 0);
        g.change(1);
        DUE.is("25: shut pipes lead, too", g.why(0), 0);
        DUE.is("25: beyond the next", g.why(3), 3);
        GasTurn two = new GasTurn();
        Due.knots(two, 3);
        two.terminal(0);
        two.sector(5);
        two.pipe(0, 1, 1);
        two.pipe(1, 2, 1);
        DUE.is("25: only through another one", two.why(0), 3);
        two.pipe(0, 2, 0);
        DUE.is("25: straight", two.why(0), 0);
    }

    private static void whyStays() {
        GasTurn g = chain(3);
        g.home(1, 10, 31, 0);
        DUE.is("25: the rest has no work", g.why(0), 4);
        g.works(2, 9, 9);
        DUE.is("25: too little", g.why(0), 4);
        g.works(2, 1, 9);
        DUE.is("25: just enough", g.why(0), 0);
        g.valve(1, 0);
        DUE.is("25: shut pipes join, too", g.why(0), 0);
        g.close(1);
        DUE.is("25: one is closed", g.why(0), 4);
        g.works(0, 500, 9);
        DUE.is("25: work of its own does not help", g.why(0), 4);
        g.terminal(1);
        DUE.is("25: the homes are its own", g.why(1), 0);
        g.home(0, 20, 31, 0);
        DUE.is("25: groups apart: 500 here", g.why(1), 0);
        g.home(2, 10, 31, 0);
        DUE.is("25: groups apart: 9 there", g.why(1), 4);
        g.works(2, 1, 9);
        DUE.is("25: groups apart: 10 there", g.why(1), 0);
        g.home(2, 1, 31, 0);
        DUE.is("25: homes of one knot together", g.why(1), 4);
        g.terminal(2);
        DUE.is("25: 500 for knots 0 and 1", g.why(2), 0);
        GasTurn least = chain(3);
        least.terminal(1);
        least.home(0, 1, 31, 0);
        DUE.is("25: knot 0 alone has none", least.why(1), 4);
        least.works(0, 1, 1);
        DUE.is("25: knot 0 alone has enough", least.why(1), 0);
    }

    private static void whyBarred() {
        GasTurn g = chain(2);
        Due.law(g, "bar sector 0 week 1 to 2");
        DUE.is("25: week 0", g.why(0), 0);
        g.week();
        DUE.is("25: week 1", g.why(0), 5);
        DUE.is("25: fed is told first", g.why(1), 3);
        DUE.is("25: barred", g.change(0), -3);
        g.week();
        DUE.is("25: week 2", g.why(0), 5);
        g.week();
        DUE.is("25: week 3", g.why(0), 0);
        Due.law(g, "bar sector 0 week 9 to 1");
        Due.law(g, "bar sector 9 week 0 to 999");
        DUE.is("25: never count", g.why(0), 0);
        DUE.is("25: they are laws all the same", g.count(12), 3);
    }

    private static void whyChanged() {
        GasTurn g = chain(2);
        g.change(0);
        DUE.is("25: changed", g.why(0), 1);
        g.pipe(0, 1, 0);
        g.terminal(-1);
        DUE.is("25: changed is told first", g.why(0), 1);
        DUE.is("25: border of what is changed and it has none", g.why(1), 3);
    }

    /** A ring of four with a spur: the price hangs on the order. */
    private static void bestOfRing() {
        GasTurn g = new GasTurn();
        Due.knots(g, 5);
        g.pipe(0, 1, 1);
        g.pipe(0, 2, 1);
        g.pipe(1, 3, 1);
        g.pipe(2, 3, 1);
        g.pipe(3, 4, 1);
        g.pipe(3, 4, 1);
        for (int k = 0; k < 5; k++) g.sector(1 << k);
        g.terminal(0);
        DUE.is("26: 2 and 2 and 2 (1 in) and 2 and 0", g.best(), 8);
        int[] row = {0, 1, 2, 3, 4};
        for (int i = 0; i < 5; i++) DUE.is("27: row", g.bestAt(i), row[i]);
        g.pipe(1, 4, 1);
        g.pipe(1, 4, 1);
        DUE.is("26: 2 and 4 and 4 and 2 and 0, by 2 first no less", g.best(), 12);
        int[] lesser = {0, 1, 4, 3, 2};
        for (int i = 0; i < 5; i++) DUE.is("27: row", g.bestAt(i), lesser[i]);
        g.pipe(1, 3, 1);
        DUE.is("26: 2 and 2 and 5 and 4 and 0, by 1 first 14", g.best(), 13);
        int[] dear = {0, 2, 1, 3, 4};
        for (int i = 0; i < 5; i++) DUE.is("27: row", g.bestAt(i), dear[i]);
    }

    private static void bestLesserFirst() {
        GasTurn g = new GasTurn();
        Due.knots(g, 4);
        g.pipe(0, 1, 1);
        g.pipe(0, 2, 1);
        g.pipe(0, 3, 1);
        g.sector(8);
        g.sector(1);
        g.sector(4);
        g.sector(2);
        g.terminal(0);
        DUE.is("26: 3 and 2 and 1 and 0", g.best(), 6);
        int[] row = {1, 0, 2, 3};
        for (int i = 0; i < 4; i++) DUE.is("27: the lesser first", g.bestAt(i), row[i]);
        DUE.is("27: none", g.bestAt(4), -1);
        for (int far : Due.FAR) DUE.is("27: none", g.bestAt(far), -1);
        g.change(1);
        DUE.is("26: of the rest", g.best(), 3);
        DUE.is("27: of the rest", g.bestAt(0), 0);
        DUE.is("27: of the rest", g.bestAt(2), 3);
        DUE.is("27: no more", g.bestAt(3), -1);
    }

    private static void bestIsKept() {
        GasTurn g = chain(3);
        DUE.is("26: told", g.best(), 2);
        g.terminal(-1);
        DUE.is("26: no row", g.best(), -3);
        DUE.is("27: the one told stays", g.bestAt(2), 2);
        g.terminal(0);
        for (int s = 0; s < 3; s++) g.change(s);
        DUE.is("26: all are changed", g.best(), -3);
        DUE.is("27: the one told stays", g.bestAt(0), 0);
        GasTurn last = chain(3);
        last.home(2, 5, 31, 0);
        last.works(1, 50, 5);
        DUE.is("26: the works' knot ahead of the homes' leaves none", last.best(), -3);
        last.works(2, 5, 5);
        DUE.is("26: enough", last.best(), 2);
        GasTurn bare = chain(4);
        bare.pipe(1, 3, 0);
        DUE.is("26: 1 and 3 can't be parted", bare.best(), -3);
        DUE.is("27: none was told", bare.bestAt(0), -1);
        GasTurn way = chain(3);
        way.pipe(0, 2, 1);
        way.home(2, 5, 31, 0);
        way.works(1, 5, 5);
        DUE.is("26: 2 must go ahead of 1", way.best(), 4);
        int[] due = {0, 2, 1};
        for (int i = 0; i < 3; i++) DUE.is("27: row", way.bestAt(i), due[i]);
        way.lost(2);
        DUE.is("26: the border of sector 0 has none now", way.best(), -3);
        GasTurn both = chain(3);
        both.pipe(2, 0, 1);
        both.lost(2);
        DUE.is("26: neither 0 nor 1 can be first", both.best(), -3);
    }

    private static void bestLeavesLawsAside() {
        GasTurn g = chain(2);
        Due.law(g, "bar sector 0 week 0 to 200");
        DUE.is("26: laws aside", g.best(), 1);
        DUE.is("27: row", g.bestAt(0), 0);
    }

    private static void bestOfSeven() {
        GasTurn g = new GasTurn();
        Due.knots(g, 8);
        for (int k = 1; k < 8; k++) g.pipe(k - 1, k, 1);
        g.pipe(7, 0, 1);
        g.terminal(0);
        for (int k = 0; k < 7; k++) g.sector(1 << k);
        DUE.is("26: two a week till the last, and knot 7 stays", g.best(), 14);
        for (int i = 0; i < 7; i++) DUE.is("27: row", g.bestAt(i), i);
        DUE.is("27: none", g.bestAt(7), -1);
    }

    private static void plan() {
        GasTurn g = chain(7);
        DUE.is("28: none", g.plan(7), -1);
        for (int far : Due.FAR) DUE.is("28: none", g.plan(far), -1);
        for (int s = 6; s >= 0; s--) DUE.is("28: plan", g.plan(s), 7 - s);
        for (int s = 0; s < 7; s++) DUE.is("28: in it", g.plan(s), -3);
        DUE.is("28: count", g.count(8), 7);
        DUE.is("32: leaves the plan", g.change(0), 0);
        DUE.is("28: count", g.count(8), 6);
        DUE.is("28: changed", g.plan(0), -3);
        DUE.is("29: had", g.unplan(), 6);
        DUE.is("29: had", g.unplan(), 0);
        DUE.is("29: count", g.count(8), 0);
        DUE.is("28: again", g.plan(3), 1);
    }

    private static void shortage() {
        GasTurn g = chain(3);
        g.model(0, 0, 5, 1, 0);
        g.home(0, 1, 31, 0);
        g.home(1, 1, 31, 0);
        g.home(1, 1, 31, 1);
        DUE.is("30: no plan", g.shortOf(0, 1), -1);
        g.plan(1);
        g.plan(2);
        g.plan(0);
        DUE.is("30: least 2", g.shortOf(0, 0), 0);
        DUE.is("30: another kind", g.shortOf(1, 1), -1);
        g.stock(0, 2);
        DUE.is("30: the third needs 3", g.shortOf(0, 0), 2);
        g.stock(0, 1);
        DUE.is("30: never", g.shortOf(0, 0), -1);
        DUE.is("30: most 10", g.shortOf(0, 1), 0);
        g.stock(0, 7);
        DUE.is("30: most 15", g.shortOf(0, 1), 2);
        g.survey(0, 1);
        DUE.is("30: most 11", g.shortOf(0, 1), 2);
        g.survey(1, 1);
        DUE.is("30: most 7, as known now", g.shortOf(0, 1), -1);
        DUE.is("30: jet 5", g.shortOf(5, 0), -5);
        DUE.is("30: most 2", g.shortOf(0, 2), -5);
        for (int far : Due.FAR) {
            DUE.is("30: jet", g.shortOf(far, 0), -5);
            DUE.is("30: most", g.shortOf(0, far), -5);
        }
    }

    private static void shortageOverWeeks() {
        GasTurn g = chain(4);
        for (int k = 0; k < 4; k++) g.home(k, 1, 31, 0);
        for (int s = 0; s < 4; s++) g.plan(s);
        g.order(0, 1, 1);
        g.order(1, 50, 1);
        g.stock(0, 1);
        DUE.is("30: 1, 2 in time, then short", g.shortOf(0, 1), 2);
        g.order(0, 1, 2);
        DUE.is("30: comes in that week", g.shortOf(0, 1), 3);
        g.order(0, 1, 4);
        DUE.is("30: comes too late", g.shortOf(0, 1), 3);
        g.week();
        DUE.is("30: what came is in the stock, weeks go on", g.shortOf(0, 1), -1);
        g.stock(0, -1);
        DUE.is("30: stock 1 now, week 2 brings 1, week 4 one", g.shortOf(0, 1), 3);
    }
}

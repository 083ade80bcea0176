/** Promises 36 to 40: smells, the limit, faults. */
public final class SmellsTest {
    private static final Due DUE = new Due();

    public static void main(String[] args) {
        smells();
        smellsAreFull();
        ways();
        whoIsThereFirst();
        late();
        limits();
        faults();
        beyondChance();
        beyondAtItsEdge();
        beyondOfForty();
        DUE.end();
    }

    private static GasTurn chain(int n) {
        GasTurn g = new GasTurn();
        Due.knots(g, n);
        for (int k = 1; k < n; k++) g.pipe(k - 1, k, 1);
        g.model(0, 0, 1, 1, 0);
        for (int k = 0; k < n; k++) g.home(k, 1, 31, 0);
        return g;
    }

    private static void is(String what, GasTurn g, int i, int fitter, int there) {
        DUE.is(what + ": who", g.smellOf(i, 2), fitter);
        DUE.is(what + ": when", g.smellOf(i, 3), there);
    }

    private static void smells() {
        GasTurn g = chain(2);
        DUE.is("36: no home", g.smell(2, 0), -1);
        DUE.is("36: none ahead of bad", g.smell(2, -1), -1);
        DUE.is("36: minute -1", g.smell(0, -1), -2);
        DUE.is("36: minute 10000", g.smell(0, 10000), -2);
        for (int far : Due.FAR) {
            DUE.is("36: home", g.smell(far, 0), -1);
            DUE.is("36: minute", g.smell(0, far), -2);
        }
        DUE.is("36: first", g.smell(1, 0), 0);
        DUE.is("36: nobody", g.smellOf(0, 2), -1);
        DUE.is("36: 5", g.smell(0, 5), 1);
        DUE.is("36: ahead of the one before", g.smell(0, 4), -2);
        DUE.is("36: the same minute", g.smell(0, 5), 2);
        DUE.is("36: the last minute", g.smell(0, 9999), 3);
        DUE.is("36: count", g.count(10), 4);
        GasTurn second = chain(1);
        second.smell(0, 5);
        DUE.is("36: ahead of the first one", second.smell(0, 4), -2);
        DUE.is("36: no smell", second.count(10), 1);
        DUE.is("37: home", g.smellOf(0, 0), 1);
        DUE.is("37: minute", g.smellOf(3, 1), 9999);
        DUE.is("37: nobody", g.smellOf(3, 3), -1);
        DUE.is("37: late", g.smellOf(3, 4), 1);
        DUE.is("37: smell 4", g.smellOf(4, 0), -5);
        DUE.is("37: what 5", g.smellOf(0, 5), -5);
        for (int far : Due.FAR) {
            DUE.is("37: smell", g.smellOf(far, 0), -5);
            DUE.is("37: what", g.smellOf(0, far), -5);
        }
    }

    private static void smellsAreFull() {
        GasTurn g = chain(1);
        g.fitter(0, 1, 0);
        for (int i = 0; i < 30; i++) DUE.is("36: smell", g.smell(0, 3), i);
        DUE.is("36: full", g.smell(0, 3), -4);
        DUE.is("36: bad ahead of full", g.smell(0, 2), -2);
        DUE.is("36: none ahead of full", g.smell(1, 3), -1);
        DUE.is("36: one behind the other", g.smellOf(29, 3), 3 + 29 * 15);
        DUE.is("36: count", g.count(10), 30);
    }

    private static void ways() {
        GasTurn g = chain(12);
        g.fitter(1, 1, 0);
        g.smell(11, 100);
        is("36: eleven pipes", g, 0, 0, 144);
        g.smell(11, 100);
        is("36: he is there, free 15 behind", g, 1, 0, 159);
        g.pipe(11, 2, 1);
        g.valve(11, 0);
        g.smell(0, 1000);
        is("36: fewest pipes, whether open or shut", g, 2, 0, 1012);
        g.smell(1, 1020);
        is("36: from where he was, when he is free", g, 3, 0, 1031);
    }

    private static void whoIsThereFirst() {
        GasTurn g = chain(5);
        g.fitter(1, 1, 4);
        g.fitter(1, 1, 2);
        g.fitter(1, 1, 2);
        g.smell(3, 10);
        is("36: three are as near: the least", g, 0, 0, 14);
        g.smell(3, 10);
        is("36: of two the least", g, 1, 1, 14);
        g.smell(3, 20);
        is("36: the one who is free", g, 2, 2, 24);
        g.smell(3, 20);
        is("36: nobody is free", g, 3, 0, 29);
        g.smell(2, 28);
        is("36: free at 29 at knot 3", g, 4, 1, 33);
        GasTurn apart = chain(2);
        apart.knot();
        apart.home(2, 1, 31, 0);
        apart.fitter(1, 1, 0);
        apart.smell(2, 5);
        is("36: none can come", apart, 0, -1, -1);
        apart.smell(1, 5);
        is("36: he was not sent", apart, 1, 0, 9);
        apart.fitter(1, 1, 2);
        apart.smell(2, 6);
        is("36: now one can", apart, 2, 1, 6);
        is("36: what was stays", apart, 0, -1, -1);
    }

    private static void late() {
        GasTurn g = chain(9);
        g.fitter(1, 1, 0);
        g.smell(7, 10);
        g.smell(8, 1000);
        g.smell(0, 2000);
        DUE.is("37: 28", g.smellOf(0, 4), 0);
        DUE.is("37: 4", g.smellOf(1, 4), 0);
        DUE.is("37: 32", g.smellOf(2, 4), 1);
        g.limit(32);
        DUE.is("37: by the limit as it is now", g.smellOf(2, 4), 0);
        g.limit(3);
        DUE.is("37: 4", g.smellOf(1, 4), 1);
        g.limit(4);
        DUE.is("37: 4", g.smellOf(1, 4), 0);
    }

    private static void limits() {
        GasTurn g = new GasTurn();
        DUE.is("38: was", g.limit(0), 30);
        DUE.is("38: was", g.limit(999), 0);
        DUE.is("38: bad", g.limit(1000), -2);
        DUE.is("38: bad", g.limit(-1), -2);
        for (int far : Due.FAR) DUE.is("38: bad", g.limit(far), -2);
        DUE.is("38: stayed", g.limit(7), 999);
    }

    /** Homes of models 0 and 1, all at knot 0 and all changed: so many of each. */
    private static GasTurn changed(int first, int second) {
        GasTurn g = new GasTurn();
        g.knot();
        g.terminal(0);
        g.sector(1);
        g.model(0, 0, 1, 1, 0);
        g.model(0, 0, 1, 1, 0);
        for (int i = 0; i < first; i++) g.home(0, 1, 31, 0);
        for (int i = 0; i < second; i++) g.home(0, 1, 31, 1);
        for (int i = 0; i < 8; i++) g.fitter(1, 10, 0);
        g.stock(0, 99);
        DUE.is("39: all are changed", g.change(0), first + second);
        return g;
    }

    private static void faults() {
        GasTurn g = changed(2, 0);
        g.home(0, 1, 31, 0);
        DUE.is("39: no home", g.fault(3), -1);
        for (int far : Due.FAR) DUE.is("39: no home", g.fault(far), -1);
        DUE.is("39: it is old", g.fault(2), -3);
        DUE.is("39: first", g.fault(1), 1);
        DUE.is("39: once", g.fault(1), -3);
        DUE.is("39: told", g.homeOf(1, 7), 1);
        DUE.is("39: not told", g.homeOf(0, 7), 0);
        DUE.is("39: second", g.fault(0), 2);
        DUE.is("39: count", g.count(11), 2);
        GasTurn shut = new GasTurn();
        shut.knot();
        shut.terminal(0);
        shut.sector(1);
        shut.model(0, 0, 1, 1, 0);
        shut.home(0, 1, 0, 0);
        shut.change(0);
        DUE.is("39: it is shut", shut.fault(0), -3);
    }

    private static void beyondChance() {
        GasTurn g = new GasTurn();
        DUE.is("40: no model", g.beyond(0, 1), -1);
        g.model(0, 0, 1, 1, 0);
        DUE.is("40: none ahead of bad", g.beyond(1, 0), -1);
        DUE.is("40: p 0", g.beyond(0, 0), -2);
        DUE.is("40: p 10000", g.beyond(0, 10000), -2);
        for (int far : Due.FAR) {
            DUE.is("40: model", g.beyond(far, 1), -1);
            DUE.is("40: p", g.beyond(0, far), -2);
        }
        DUE.is("40: nothing is changed: it is sure", g.beyond(0, 9999), 0);
        DUE.is("40: p 1", g.beyond(0, 1), 0);
    }

    private static void beyondAtItsEdge() {
        GasTurn g = changed(1, 3);
        DUE.is("40: no faults: it is sure", g.beyond(0, 9999), 0);
        g.fault(0);
        DUE.is("40: 1 of 4 is 2500", g.beyond(0, 2500), 0);
        DUE.is("40: less than 2501", g.beyond(0, 2501), 1);
        DUE.is("40: the other has none: it is sure", g.beyond(1, 9999), 0);
        g.fault(1);
        DUE.is("40: 1 of 2 is 5000", g.beyond(0, 5000), 0);
        DUE.is("40: less than 5001", g.beyond(0, 5001), 1);
        DUE.is("40: 1 or more of 3 at 2 is sure", g.beyond(1, 9999), 0);
        GasTurn two = changed(2, 4);
        two.fault(0);
        two.fault(1);
        two.fault(2);
        DUE.is("40: 4 of 20 is 2000", two.beyond(0, 2000), 0);
        DUE.is("40: 4 of 20 is 2000", two.beyond(0, 2001), 1);
        GasTurn some = changed(3, 3);
        some.fault(0);
        some.fault(1);
        some.fault(5);
        DUE.is("40: 9 and 1 of 20 is 5000", some.beyond(0, 5000), 0);
        DUE.is("40: 9 and 1 of 20 is 5000", some.beyond(0, 5001), 1);
        DUE.is("40: 9 and 9 and 1 of 20 is 9500", some.beyond(1, 9500), 0);
        DUE.is("40: 9 and 9 and 1 of 20 is 9500", some.beyond(1, 9501), 1);
        some.home(0, 1, 31, 0);
        DUE.is("40: a home that is not changed does not count", some.beyond(0, 5000), 0);
        DUE.is("40: a home that is not changed does not count", some.beyond(0, 5001), 1);
    }

    private static void beyondOfForty() {
        GasTurn g = changed(20, 20);
        for (int i = 0; i < 14; i++) g.fault(i);
        for (int i = 20; i < 26; i++) g.fault(i);
        // C(20,14) C(20,6) + .. + C(20,20) C(20,0) of C(40,20) is 128.2 of 10000, with 6 in the place of 14 9980.7
        DUE.is("40: 40 homes, 20 faults", g.beyond(0, 128), 0);
        DUE.is("40: 40 homes, 20 faults", g.beyond(0, 129), 1);
        DUE.is("40: the other has few", g.beyond(1, 9980), 0);
        DUE.is("40: the other has few", g.beyond(1, 9981), 1);
    }
}
